theorem ok_mean {M : Mm} (w : Int32) (h : Rel M) : okJ (wX6_mean w) (wX7_mean w) M := by
  unfold okJ wX6_mean wX7_mean
  refine isWithin_br 0 1 rfl rfl (fun e => isWhich_n e (br_t rfl ⟨rfl, h⟩)) (fun e => ?_)
  obtain ⟨hO, hS, n, k, hn, h14, h31, hQ, hP⟩ := id h
  rcases told_cases hP with ⟨h0, h1, h2⟩ | ⟨h1, h2, d, hd, hdn, hp, ⟨b, hba⟩, hb, hg⟩
  · exact br_t h1 (isWhich_t e (br_f one_ne (br_t h2 ⟨rfl, h⟩)))
  refine br_f (by rw [h1]; decide) ?_
  refine runs (W7 := fun _ _ => True) hd hdn hp h14 hba (fun M' ww hf _ _ hl ht hw _ => ?_)
  have htot := LK_tot hl
  have htotW := LK_tot (LK_5 hd b)
  have hwj := LK_mean hl
  have hWj := LK_mean (LK_5 hd b)
  refine meanWC (o := 0) (by decide) hw ?_
  rw [ht]
  refine shareC ⟨by omega, by omega, htot.1, by omega⟩ (isWhich_t e (br_f one_ne (br_f (by rw [hf.1 28 (by decide), h2]; decide) ?_)))
  refine runs7 hf hd hdn hp h31 hba (fun M2 hf2 _ hW _ => meanWM hW (allWM hW ?_))
  refine shareM ⟨by omega, by omega, htotW.1, by omega⟩ (toldM ⟨?_, Rel_fr (fr_sj 5 _ (fr_sj 4 _ hf2)) h⟩)
  obtain ⟨⟨D, hD, hDw⟩, -⟩ := hl
  have hr := rdU_LK (d := d) (b := b) (w := ww) hD (meanI_sc hDw) (totI_sc hDw)
  rw [hr.1, hr.2]
