theorem sumI_mono {f : Nat → Int} (h : ∀ i, 0 ≤ f i) {a b : Nat} (hab : a ≤ b) : sumI f a ≤ sumI f b := by
  induction b with
  | zero => have : a = 0 := by omega
            subst this; exact Int.le_refl _
  | succ b ih =>
    rcases Nat.lt_or_ge a (b + 1) with q | q
    · have := ih (by omega)
      have := h b
      show sumI f a ≤ sumI f b + f b
      omega
    · have : a = b + 1 := by omega
      subst this; exact Int.le_refl _
theorem found_nn {d : PD} {b : Nat → Nat} {w : Nat → Int} (hd : PDok d) (h : LK d b w) (i : Nat) : 0 ≤ foundI (pS d) w i := by
  have hs := hd.2.1
  have h1 := (h.2.1 i).1
  have h2 := (h.2.1 (i + 1)).1
  unfold foundI
  split
  · exact Int.add_nonneg (by omega) (Int.mul_nonneg (by omega) h2)
  · exact Int.add_nonneg (Int.mul_nonneg (by omega) h1) (Int.mul_nonneg (by omega) h2)
theorem found_sum {d : PD} {b : Nat → Nat} {w : Nat → Int} (hd : PDok d) (h : LK d b w) {j : Nat} (hj : j ≤ 6) : 0 ≤ sumI (foundI (pS d) w) j ∧ sumI (foundI (pS d) w) j ≤ 12 * totI w := by
  have h1 := sumI_mono (found_nn hd h) (Nat.zero_le j)
  have h2 := sumI_mono (found_nn hd h) hj
  rw [found_all h.2.2.2] at h2
  exact ⟨h1, h2⟩
theorem ok_on {M : Mm} (a w : Int32) (h : Rel M) : okJ (wX6_on a w) (wX7_on a w) M := by
  unfold okJ wX6_on wX7_on wX2_has
  obtain ⟨hO, hS, n, k, hn, h14, h31, hQ, hP⟩ := id h
  refine has_br (cnt := gi M 14) h14 (by omega) (fun q => isSort_n h31 (by omega) q ⟨rfl, h⟩) (fun j hj q => ?_)
  subst q
  have hcl : (nI j).toNatClampNeg = j := nI_clamp (by omega)
  refine isWithin_br 0 1 rfl rfl (fun e => isSort_t h31 (by omega) hj (isWhich_n e (br_t rfl ⟨rfl, h⟩))) (fun e => ?_)
  rcases told_cases hP with ⟨h0, h1, h2⟩ | ⟨h1, h2, d, hd, hdn, hp, ⟨b, hba⟩, hb, hg⟩
  · omega
  have hbj := hba j hj
  refine runs (W7 := fun _ _ => True) hd hdn hp h14 hba (fun M' ww hf h18 hrow hl ht hw _ => ?_)
  have htot := LK_tot hl
  have hl5 := LK_5 hd b
  have htotW := LK_tot hl5
  have hF := found_sum hd hl (j := b j) (by omega)
  have hFW := found_sum hd hl5 (j := b j) (by omega)
  have e15 : ga M' 15 = ga M 15 := (hrow 15).resolve_right (by decide)
  refine at_in (n := 3) rfl (by decide) (by omega) ?_
  rw [e15, hbj.2.1]
  refine foundBC (o := 0) (S := pS d) (w := ww) (by decide) hd.2.1 hbj.1 h18 hw hl.2.2.2 ?_
  rw [ht, show (12 : Int64) = jZ 12 from rfl, jZ_mul, jZ_sub]
  refine shareC ⟨by omega, by omega, by omega, by omega⟩ (isSort_t (by rw [hf.1 31 (by decide)]; exact h31) (by omega) hj (isWhich_t e (br_f one_ne ?_)))
  refine runs7 hf hd hdn hp h31 hba (fun M2 hf2 hg2 hW _ => ⟨vp_in_nI (by omega) (by decide), ?_⟩)
  have e38 : ga M2 38 j = nI (b j) := by rw [hf2.2 38 (by decide) (by decide)]; exact hbj.2.2
  rw [hcl, e38]
  obtain ⟨⟨D, hD, hDw⟩, -⟩ := id hl
  have hFs : sumI (foundI (pS d) (runW d b 5)) (b j) = D * sumI (foundI (pS d) ww) (b j) := by
    rw [← sumI_mul]; exact sumI_congr _ (fun i _ => foundI_sc hDw i)
  have h29 : gi M2 29 = nI (pS d) := by rw [hf2.1 29 (by decide)]; exact hp.2.2.2.1
  rw [show (0 : Int64) = jZ (sumI (foundI (pS d) (runW d b 5)) (b j) - sumI (foundI (pS d) (runW d b 5)) (b j)) from by rw [Int.sub_self]; rfl]
  refine up_loop (fun i (_ : Unit) => lX7_on_37 w _ (jZ (sumI (foundI (pS d) (runW d b 5)) i - sumI (foundI (pS d) (runW d b 5)) (b j))) (nI i) M2) (fun _ _ => True) 6 ?_ ?_ (b j) () (by omega) trivial
  · rintro _ -
    refine lX7_on_37_mk _ _ _ _ _ (br_t (by decide) (allWM hW ?_))
    rw [show (12 : Int64) = jZ 12 from rfl, jZ_mul, found_all hl5.2.2.2]
    refine shareM ⟨by omega, by omega, by omega, by omega⟩ (toldM ⟨?_, Rel_fr (fr_sj 5 _ (fr_sj 4 _ hf2)) h⟩)
    have hr := rdU_LK (d := d) (b := b) (w := ww) hD (x := 12 * totI ww - sumI (foundI (pS d) ww) (b j)) (X := 12 * totI (runW d b 5) - sumI (foundI (pS d) (runW d b 5)) (b j)) (by rw [hFs, totI_sc hDw, Int.mul_sub, Int.mul_left_comm]) (y := 12 * totI ww) (Y := 12 * totI (runW d b 5)) (by rw [totI_sc hDw, Int.mul_left_comm])
    rw [hr.1, hr.2]
  · rintro i _ hi - ih
    refine lX7_on_37_mk _ _ _ _ _ (br_f (nI_nlt (a := 5) (by omega) (by omega)) (metM (S := pS d) (w := runW d b 5) hd.2.1 hi h29 hW ?_))
    rw [jZ_add, nI_1]
    have ih := ih () trivial
    rw [show sumI (foundI (pS d) (runW d b 5)) (i + 1) - sumI (foundI (pS d) (runW d b 5)) (b j) = sumI (foundI (pS d) (runW d b 5)) i - sumI (foundI (pS d) (runW d b 5)) (b j) + foundI (pS d) (runW d b 5) i from by
      show sumI (foundI (pS d) (runW d b 5)) i + foundI (pS d) (runW d b 5) i - _ = _
      omega] at ih
    exact ih
