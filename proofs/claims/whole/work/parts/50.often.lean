/-- the reference's run, over what the class left -/
theorem runs7 {M M' : Mm} {d : PD} {n : Nat} {b : Nat → Nat} {Q : Mm → Prop} (hf : FR M' M) (hd : PDok d) (hdn : pn d = n) (hp : PP d M) (h31 : gi M 31 = nI n) (hba : ∀ s, s < n → b s ≤ 5 ∧ ga M 15 s = nI (b s) ∧ ga M 38 s = nI (b s)) (q : ∀ M2, FR M2 M → RGn M2 M' → RMn d b M2 → RMn2 d b M2 → Q M2) : wX7_layRun 38 Q M' := by
  refine layRunM (d := d) (b := b) hd rfl (by decide) (by rw [hf.1 31 (by decide), hdn]; exact h31) (by rw [hf.1 29 (by decide)]; exact hp.2.2.2.1) (fun s hs => ⟨(hba s (by omega)).1, ?_⟩) (fun s hs => ?_) (fun M2 g h1 h2 => q M2 (fr_tr ⟨fun k _ => g.1 k, fun k _ hk => g.2.1 k (by omega)⟩ hf) g h1 h2)
  · rw [hf.2 38 (by decide) (by decide)]; exact (hba s (by omega)).2.2
  · rw [hf.2 36 (by decide) (by decide)]; exact (hp.2.2.2.2.2.2 s hs).2.1
theorem lost_w {M : Mm} {w : Int32} : inI w 0 1 ∨ ¬ inI w 0 1 := by unfold inI; omega
theorem fr_sj {M1 M : Mm} (j : Nat) (v : Int64) (h : FR M1 M) : FR (sj M1 j v) M := ⟨h.1, h.2⟩
theorem rdU_LK {d : PD} {b : Nat → Nat} {w : Nat → Int} {x X : Int} {D : Int} (hD : 0 < D) (hx : X = D * x) {y Y : Int} (hy : Y = D * y) : rdU X Y = rdU x y ∧ rdL X Y = rdL x y := by
  rw [hx, hy]; exact ⟨rdU_sc hD, rdL_sc hD⟩
theorem ok_often {M : Mm} (a w : Int32) (h : Rel M) : okJ (wX6_often a w) (wX7_often a w) M := by
  unfold okJ wX6_often wX7_often
  refine isWithin_br 0 5 rfl rfl (fun c => within_n 0 5 rfl rfl c ⟨rfl, h⟩) (fun c => ?_)
  refine isWithin_br 0 1 rfl rfl (fun e => within_t 0 5 rfl rfl c (isWhich_n e (br_t rfl ⟨rfl, h⟩))) (fun e => ?_)
  obtain ⟨hO, hS, n, k, hn, h14, h31, hQ, hP⟩ := id h
  rcases told_cases hP with ⟨h0, h1, h2⟩ | ⟨h1, h2, d, hd, hdn, hp, ⟨b, hba⟩, hb, hg⟩
  · exact br_t h1 (within_t 0 5 rfl rfl c (isWhich_t e (br_f one_ne (br_t h2 ⟨rfl, h⟩))))
  refine br_f (by rw [h1]; decide) ?_
  obtain ⟨j, hj, rfl⟩ := inI_nI c (n := 5) rfl
  refine runs (W7 := fun _ _ => True) hd hdn hp h14 hba (fun M' ww hf _ _ hl ht hw _ => ?_)
  have htot := LK_tot hl
  have htotW := LK_tot (LK_5 hd b)
  have hwj := hl.2.1 j
  have hWj := (LK_5 hd b).2.1 j
  have hcl : (nI j).toNatClampNeg = j := nI_clamp (by omega)
  refine atJ_in (n := 6) rfl (by decide) (by omega) ?_
  rw [hw j (by omega), ht]
  refine shareC ⟨by omega, by omega, htot.1, by omega⟩ (within_t 0 5 rfl rfl c (isWhich_t e (br_f one_ne (br_f (by rw [hf.1 28 (by decide), h2]; decide) ?_))))
  refine runs7 hf hd hdn hp h31 hba (fun M2 hf2 _ hW _ => ⟨vp_in_nI (by omega) (by decide), allWM hW ?_⟩)
  rw [hcl, hW j (by omega)]
  refine shareM ⟨by omega, by omega, htotW.1, by omega⟩ (toldM ⟨?_, Rel_fr (fr_sj 5 _ (fr_sj 4 _ hf2)) h⟩)
  obtain ⟨⟨D, hD, hDw⟩, -⟩ := hl
  have hr := rdU_LK (d := d) (b := b) (w := ww) hD (hDw j) (totI_sc hDw)
  rw [hr.1, hr.2]
theorem LK_mean {d : PD} {b : Nat → Nat} {w : Nat → Int} (h : LK d b w) : 0 ≤ meanI w ∧ meanI w ≤ 928760463360 := by
  rw [mean_eq]
  have h0 := h.2.1 0
  have h1 := h.2.1 1
  have h2 := h.2.1 2
  have h3 := h.2.1 3
  have h4 := h.2.1 4
  have h5 := h.2.1 5
  omega
