/-! gain -/
def GC (M1 M : Mm) : Prop := (∀ k, k ≠ 20 → k ≠ 21 → gi M1 k = gi M k) ∧ ∀ k, k ≠ 20 → ga M1 k = ga M k
/-- a gain that stands for the place's, in shares of its own -/
def GS (d : PD) (b : Nat → Nat) (U L : Int) : Prop := (∃ D, 0 < D ∧ gainU d b (runW d b 5) = D * U ∧ gainD (runW d b 5) = D * L) ∧ rgL U ∧ rgL L ∧ 0 < L
theorem sumI_nnb {f : Nat → Int} {g : Nat → Int} : ∀ n, (∀ j, j < n → 0 ≤ f j ∧ f j ≤ g j) → 0 ≤ sumI f n ∧ sumI f n ≤ sumI g n
  | 0, _ => ⟨Int.le_refl _, Int.le_refl _⟩
  | n + 1, h => by
    have h1 := sumI_nnb n (fun j hj => h j (by omega))
    have h2 := h n (by omega)
    show 0 ≤ sumI f n + f n ∧ sumI f n + f n ≤ sumI g n + g n
    omega
theorem sumT_I (T : Nat → Nat) (B : Int) : ∀ n, sumI (fun s => (T s : Int) * B) n = (sumTo T n : Int) * B
  | 0 => by show (0 : Int) = ((0 : Nat) : Int) * B; simp
  | n + 1 => by
    show sumI (fun s => (T s : Int) * B) n + (T n : Int) * B = ((sumTo T n + T n : Nat) : Int) * B
    rw [sumT_I T B n, Int.natCast_add, Int.add_mul]
theorem gain_rg {d : PD} {b : Nat → Nat} {w : Nat → Int} (hd : PDok d) (hb : ∀ s, s < pn d → b s ≤ 5) (h : LK d b w) : rgS (gainU d b w) (gainD w) ∧ rgL (gainU d b w) ∧ rgL (gainD w) := by
  have ht := LK_tot h
  have hm := LK_mean h
  have hT := hd.2.2.2.2.2.2.1
  have hs := sumI_nnb (f := fun s => ((pT d s : Int) * (pW d s : Int)) * sumI (foundI (pS d) w) (b s)) (g := fun s => (pT d s : Int) * 4453595992604928) (pn d) (fun s hs => by
    have f := found_sum hd h (j := b s) (by have := hb s hs; omega)
    have hW := hd.2.2.2.2.2.2.2 s hs
    have a : (pW d s : Int) * sumI (foundI (pS d) w) (b s) ≤ 999 * 4458050224128 := Int.mul_le_mul (by omega) (by omega) f.1 (by decide)
    have c : 0 ≤ (pW d s : Int) * sumI (foundI (pS d) w) (b s) := Int.mul_nonneg (by omega) f.1
    show 0 ≤ ((pT d s : Int) * (pW d s : Int)) * _ ∧ ((pT d s : Int) * (pW d s : Int)) * _ ≤ (pT d s : Int) * 4453595992604928
    rw [Int.mul_assoc]
    refine ⟨Int.mul_nonneg (by omega) c, Int.mul_le_mul_of_nonneg_left ?_ (by omega)⟩
    omega)
  rw [sumT_I] at hs
  have e1 : (sumTo (pT d) (pn d) : Int) * 4453595992604928 ≤ 11 * 4453595992604928 := Int.mul_le_mul_of_nonneg_right (by omega) (by decide)
  have hC := hd.2.2.2.1
  have e2 : 144 * (pC d : Int) * meanI w ≤ 1296 * 928760463360 := Int.mul_le_mul (by omega) (by omega) hm.1 (by decide)
  have e3 : 0 ≤ 144 * (pC d : Int) * meanI w := Int.mul_nonneg (by omega) hm.1
  have g1 : -1203673560514560 ≤ gainU d b w ∧ gainU d b w ≤ 48989555918654208 := by unfold gainU; omega
  have g2 : 0 < gainD w ∧ gainD w ≤ 53496602689536 := by unfold gainD; omega
  refine ⟨⟨by omega, by omega, by omega, by omega⟩, ⟨by omega, by omega⟩, ⟨by omega, by omega⟩⟩
theorem gain_sc {d : PD} {b : Nat → Nat} {W w : Nat → Int} {D : Int} (h : ∀ i, W i = D * w i) : gainU d b W = D * gainU d b w ∧ gainD W = D * gainD w := by
  refine ⟨?_, ?_⟩
  · unfold gainU
    rw [meanI_sc h, Int.mul_sub, ← sumI_mul, Int.mul_left_comm D]
    congr 1
    refine sumI_congr _ (fun s _ => ?_)
    show _ = D * _
    rw [Int.mul_left_comm]
    congr 1
    rw [← sumI_mul]
    exact sumI_congr _ (fun i _ => foundI_sc h i)
  · unfold gainD; rw [totI_sc h, Int.mul_left_comm]
theorem GS_w {d : PD} {b : Nat → Nat} {w : Nat → Int} (hd : PDok d) (hb : ∀ s, s < pn d → b s ≤ 5) (h : LK d b w) : GS d b (gainU d b w) (gainD w) := by
  have hr := gain_rg hd hb h
  obtain ⟨⟨D, hD, hDw⟩, -⟩ := id h
  have := gain_sc (d := d) (b := b) hDw
  exact ⟨⟨D, hD, this.1, this.2⟩, hr.2.1, hr.2.2, hr.1.2.2.1⟩
theorem rd_rg {U L : Int} (h : rgS U L) : rgL (rdU U L) ∧ rgL (rdL U L) ∧ 0 < rdL U L := by
  obtain ⟨h1, h2, h3, h4⟩ := h
  have hg := gcd_pos (U := U) h3
  have hgl := gcd_le (U := U) h3
  refine ⟨rg_fl ⟨by omega, by omega⟩ hg, rg_fl ⟨by omega, by omega⟩ hg, (rd_mul h3).2.2⟩
theorem GS_rd {d : PD} {b : Nat → Nat} (hd : PDok d) (hb : ∀ s, s < pn d → b s ≤ 5) : GS d b (rdU (gainU d b (runW d b 5)) (gainD (runW d b 5))) (rdL (gainU d b (runW d b 5)) (gainD (runW d b 5))) := by
  have hr := gain_rg hd hb (LK_5 hd b)
  have h := rd_rg hr.1
  have hm := rd_mul (U := gainU d b (runW d b 5)) hr.1.2.2.1
  exact ⟨⟨_, gcd_pos hr.1.2.2.1, hm.1, hm.2.1⟩, h.1, h.2.1, h.2.2⟩
theorem reckonC {M : Mm} {d : PD} {b : Nat → Nat} {kk : Nat} {Q : Mm → Prop} (hd : PDok d) (hk : lenA kk = 3) (hkk : kk = 15 ∨ kk = 24) (h12 : gi M 12 = nI (pS d)) (h13 : gi M 13 = nI (pC d)) (h14 : gi M 14 = nI (pn d)) (hb : ∀ s, s < pn d → b s ≤ 5 ∧ ga M kk s = nI (b s)) (hT : ∀ s, s < pn d → ga M 13 s = nI (pT d s) ∧ ga M 14 s = nI (pW d s)) (q : ∀ M' w, GC M' M → LK d b w → gj M' 2 = jZ (gainU d b w) → gj M' 3 = jZ (gainD w) → Q M') : wX0_reckon kk Q M := by
  unfold wX0_reckon
  have hn := hd.2.2.2.2.1
  refine comeC (o := 1) (d := d) (b := b) (by decide) hd hk hkk h12 h14 hb (fun s hs => (hT s hs).1) (fun M' e1 e2 e3 e4 hr => ?_)
  obtain ⟨_, hj, m, hm, hm2, ht, hw⟩ := id hr
  have hl := LK_m hd b hm hm2
  have hgc : GC M' M := ⟨fun k p q => e1 k p q, fun k p => e2 k p⟩
  have h18 : gi M' (18 + 2 * 1) = nI (pS d) := hj.1
  generalize wtS (pS d) 12 (joinN d b) m = w at hl ht hw
  rw [show (0 : Int32) = nI 0 from rfl, show (0 : Int64) = jZ 0 from rfl]
  refine up_loop (fun s (_ : Unit) => lX0_reckon_14 kk Q (jZ (sumI (fun s => ((pT d s : Int) * (pW d s : Int)) * sumI (foundI (pS d) w) (b s)) s)) (nI s) M') (fun _ _ => True) (pn d) ?_ ?_ 0 () (Nat.zero_le _) trivial
  · rintro _ -
    refine lX0_reckon_14_mk _ _ _ _ _ (br_t (by rw [e1 14 (by decide) (by decide), h14]; exact nI_le (Nat.le_refl _) (by omega)) (meanWC (o := 1) (by decide) hw (nm_e (nm_e ?_))))
    have hC := hd.2.2.2.1
    have eC : ((144 : Int32) * gi M' 13).toInt64 = jZ (144 * (pC d : Int)) := by
      rw [e1 13 (by decide) (by decide), h13, show (144 : Int32) = nI 144 from rfl, pk_mul, nI_l (by omega), jZ_N, Int.natCast_mul]; rfl
    refine q _ w ⟨hgc.1, hgc.2⟩ hl ?_ ?_
    · rw [gj_sj, if_neg (by decide), gj_sj, if_pos rfl, eC, jZ_mul, jZ_sub]; rfl
    · rw [gj_sj, if_pos rfl, gj_sj, if_neg (by decide), ht, show (144 : Int64) = jZ 144 from rfl, jZ_mul]; rfl
  · rintro s _ hs - ih
    have hbs := hb s hs
    have hTs := hT s hs
    have hW := hd.2.2.2.2.2.2.2 s hs
    have hTl : pT d s ≤ 11 := Nat.le_trans (sumTo_at (pT d) hs) hd.2.2.2.2.2.2.1
    have hmul : pT d s * pW d s ≤ 11 * 999 := Nat.mul_le_mul hTl hW
    refine lX0_reckon_14_mk _ _ _ _ _ (br_f (by rw [e1 14 (by decide) (by decide), h14]; exact nI_ge hs (by omega)) (at_in (n := 3) rfl (by decide) (by omega) (at_in (n := 3) rfl (by decide) (by omega) (at_in (n := 3) hk (by decide) (by omega) ?_))))
    rw [e2 13 (by decide), e2 14 (by decide), e2 kk (by omega), hTs.1, hTs.2, hbs.2, pk_mul, nI_l (by omega), jZ_N, Int.natCast_mul]
    refine foundBC (o := 1) (S := pS d) (w := w) (by decide) hd.2.1 hbs.1 h18 hw hl.2.2.2 ?_
    rw [jZ_mul, jZ_add, nI_1]
    exact ih () trivial
theorem layGainM {M : Mm} {d : PD} {b : Nat → Nat} {kk : Nat} {Q : Mm → Prop} (hd : PDok d) (hk : lenA kk = 3) (hkk : kk ≠ 41) (h29 : gi M 29 = nI (pS d)) (h30 : gi M 30 = nI (pC d)) (h31 : gi M 31 = nI (pn d)) (hb : ∀ s, s < pn d → b s ≤ 5 ∧ ga M kk s = nI (b s)) (hT : ∀ s, s < pn d → ga M 36 s = nI (pT d s) ∧ ga M 37 s = nI (pW d s)) (q : ∀ M', RGn M' M → Q (sj (sj M' 4 (jZ (rdU (gainU d b (runW d b 5)) (gainD (runW d b 5))))) 5 (jZ (rdL (gainU d b (runW d b 5)) (gainD (runW d b 5)))))) : wX7_layGain kk Q M := by
  unfold wX7_layGain
  have hn := hd.2.2.2.2.1
  refine layRunM (d := d) (b := b) hd hk hkk h31 h29 hb (fun s hs => (hT s hs).1) (fun M' hg hw _ => ?_)
  have hrg := gain_rg hd (fun s hs => (hb s hs).1) (LK_5 hd b)
  have q := q M' hg
  have hw : ∀ i, i < 8 → gb M' 44 i = jZ (runW d b 5 i) := hw
  generalize runW d b 5 = w at hrg q hw
  rw [show (0 : Int32) = nI 0 from rfl, show (0 : Int64) = jZ 0 from rfl]
  refine up_loop (fun s (_ : Unit) => lX7_layGain_10 kk Q (jZ (sumI (fun s => ((pT d s : Int) * (pW d s : Int)) * sumI (foundI (pS d) w) (b s)) s)) (nI s) M') (fun _ _ => True) (pn d) ?_ ?_ 0 () (Nat.zero_le _) trivial
  · rintro _ -
    refine lX7_layGain_10_mk _ _ _ _ _ (br_t (by rw [hg.1 31, h31]; exact nI_le (Nat.le_refl _) (by omega)) (meanWM hw (allWM hw ?_)))
    have hC := hd.2.2.2.1
    have eC : (gi M' 30).toInt64 = jZ (pC d) := by rw [hg.1 30, h30, nI_l (by omega), jZ_N]
    rw [eC, show (144 : Int64) = jZ 144 from rfl, jZ_mul, jZ_mul, jZ_mul, jZ_sub]
    exact shareM hrg.1 q
  · rintro s _ hs - ih
    have hbs := hb s hs
    have hTs := hT s hs
    have hW := hd.2.2.2.2.2.2.2 s hs
    have hTl : pT d s ≤ 11 := Nat.le_trans (sumTo_at (pT d) hs) hd.2.2.2.2.2.2.1
    have hcs : (nI s).toNatClampNeg = s := nI_clamp (by omega)
    have hv : vp_in (nI s) 3 := vp_in_nI (by omega) (by decide)
    have eb : ga M' kk s = nI (b s) := by rw [hg.2.1 kk hkk]; exact hbs.2
    have eT : (ga M' 36 s).toInt64 = jZ (pT d s) := by rw [hg.2.1 36 (by decide), hTs.1, nI_l (by omega), jZ_N]
    have eW : (ga M' 37 s).toInt64 = jZ (pW d s) := by rw [hg.2.1 37 (by decide), hTs.2, nI_l (by omega), jZ_N]
    refine lX7_layGain_10_mk _ _ _ _ _ (br_f (by rw [hg.1 31, h31]; exact nI_ge hs (by omega)) ?_)
    rw [show (0 : Int32) = nI 0 from rfl, show lX7_layGain_25 kk _ (nI s) Q (lX7_layGain_10 kk Q) (0 : Int64) (nI 0) M' = lX7_layGain_25 kk _ (nI s) Q (lX7_layGain_10 kk Q) (jZ (sumI (foundI (pS d) w) 0)) (nI 0) M' from rfl]
    refine up_loop (fun i (_ : Unit) => lX7_layGain_25 kk _ (nI s) Q (lX7_layGain_10 kk Q) (jZ (sumI (foundI (pS d) w) i)) (nI i) M') (fun _ _ => True) (b s) ?_ ?_ 0 () (Nat.zero_le _) trivial
    · rintro _ -
      refine lX7_layGain_25_mk _ _ _ _ _ _ _ _ ⟨by rw [hk]; exact hv, ?_⟩
      rw [hcs, eb, eT, eW, jZ_mul, jZ_mul, jZ_add, nI_1]
      exact br_t (nI_le (Nat.le_refl _) (by omega)) ⟨hv, hv, ih () trivial⟩
    · rintro i _ hi - ih2
      refine lX7_layGain_25_mk _ _ _ _ _ _ _ _ ⟨by rw [hk]; exact hv, ?_⟩
      rw [hcs, eb]
      refine br_f (nI_ge hi (by omega)) (metM (S := pS d) (w := w) hd.2.1 (by omega) (by rw [hg.1 29]; exact h29) hw ?_)
      rw [jZ_add, nI_1]
      exact ih2 () trivial
theorem fr_GC {M1 M0 M : Mm} (g : GC M1 M0) (h : FR M0 M) : FR M1 M := ⟨fun k p => (g.1 k (by omega) (by omega)).trans (h.1 k p), fun k p q => (g.2 k (by omega)).trans (h.2 k p q)⟩
theorem fr_RG {M1 M0 M : Mm} (g : RGn M1 M0) (h : FR M0 M) : FR M1 M := ⟨fun k p => (g.1 k).trans (h.1 k p), fun k p q => (g.2.1 k (by omega)).trans (h.2 k p q)⟩
theorem fr_rf (M : Mm) : FR M M := ⟨fun _ _ => rfl, fun _ _ _ => rfl⟩
theorem GS_share {d : PD} {b : Nat → Nat} {U L : Int} (h : GS d b U L) : rdU (gainU d b (runW d b 5)) (gainD (runW d b 5)) = rdU U L ∧ rdL (gainU d b (runW d b 5)) (gainD (runW d b 5)) = rdL U L := by
  obtain ⟨⟨D, hD, e1, e2⟩, -⟩ := h
  rw [e1, e2]
  exact ⟨rdU_sc hD, rdL_sc hD⟩
theorem ok_gain {M : Mm} (w : Int32) (h : Rel M) : okJ (wX6_gain w) (wX7_gain w) M := by
  unfold okJ wX6_gain wX7_gain
  refine isWithin_br 0 1 rfl rfl (fun e => isWhich_n e (br_t rfl ⟨rfl, h⟩)) (fun e => ?_)
  obtain ⟨hO, hS, n, k, hn, h14, h31, hQ, hP⟩ := id h
  rcases told_cases hP with ⟨h0, h1, h2⟩ | ⟨h1, h2, d, hd, hdn, hp, ⟨b, hba⟩, hb, hg⟩
  · exact br_t h1 (isWhich_t e (br_f one_ne (br_t h2 ⟨rfl, h⟩)))
  refine br_f (by rw [h1]; decide) ?_
  subst hdn
  have hb5 : ∀ s, s < pn d → b s ≤ 5 := fun s hs => (hba s hs).1
  obtain ⟨p11, p28, p12, p29, p13, p30, pr⟩ := id hp
  refine reckonC (d := d) (b := b) hd rfl (Or.inl rfl) p12 p13 h14 (fun s hs => ⟨(hba s hs).1, (hba s hs).2.1⟩) (fun s hs => ⟨(pr s hs).1, (pr s hs).2.2.1⟩) (fun M1 ww g1 hl e2 e3 => ?_)
  rw [e2, e3]
  have hgs := GS_share (GS_w hd hb5 hl)
  have f1 : FR M1 M := fr_GC g1 (fr_rf M)
  refine shareC (gain_rg hd hb5 hl).1 (isWhich_t e (br_f one_ne (br_f (by rw [f1.1 28 (by decide), h2]; decide) ?_)))
  refine layGainM (d := d) (b := b) hd rfl (by decide) (by rw [f1.1 29 (by decide)]; exact p29) (by rw [f1.1 30 (by decide)]; exact p30) (by rw [f1.1 31 (by decide)]; exact h31) (fun s hs => ⟨(hba s hs).1, ?_⟩) (fun s hs => ⟨?_, ?_⟩) (fun M2 g2 => toldM ⟨?_, Rel_fr (fr_sj 5 _ (fr_sj 4 _ (fr_RG g2 f1))) h⟩)
  · rw [f1.2 38 (by decide) (by decide)]; exact (hba s hs).2.2
  · rw [f1.2 36 (by decide) (by decide)]; exact (pr s hs).2.1
  · rw [f1.2 37 (by decide) (by decide)]; exact (pr s hs).2.2.2
  · rw [hgs.1, hgs.2]
