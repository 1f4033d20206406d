theorem layW68 {M : Mm} {w : Nat → Int} {top : Nat} {Q : Mm → Prop} {J2 : Int32 → Mm → Prop} (ht : top ≤ 5) (hw : ∀ i, i < top + 1 → gb M 44 i = jZ (w i)) (hz : ∀ i, top < i → w i = 0) (q : ∀ M', RGn M' M → (∀ i, i < 8 → gb M' 44 i = jZ (w i)) → gb M' 42 = gb M 42 → gb M' 43 = gb M 43 → ga M' = ga M → Q M') : lX7_layWeights_68 Q J2 (nI (top + 1)) M := by
  refine up_loop (fun j m => lX7_layWeights_68 Q J2 (nI j) m) (fun j m => RGn m M ∧ (∀ i, i < j → gb m 44 i = jZ (w i)) ∧ (top < j) ∧ gb m 42 = gb M 42 ∧ gb m 43 = gb M 43 ∧ ga m = ga M) 8 ?_ ?_ (top + 1) _ (by omega) ⟨rg_rf M, hw, by omega, rfl, rfl, rfl⟩
  · rintro m ⟨h1, h2, h3, h4, h5, h6⟩
    exact lX7_layWeights_68_mk _ _ _ _ (br_t (by decide) (q m h1 h2 h4 h5 h6))
  · rintro j m hj ⟨h1, h2, h3, h4, h5, h6⟩ ih
    have hcj : (nI j).toNatClampNeg = j := nI_clamp (by omega)
    refine lX7_layWeights_68_mk _ _ _ _ (br_f (nI_ge (b := 8) hj (by omega)) ⟨vp_in_nI hj (by decide), nm_e ?_⟩)
    rw [hcj, nI_1]
    refine ih _ ⟨rg_sb 44 _ h1 (by omega), fun i hi => ?_, by omega, h4, h5, h6⟩
    rw [gb_sb, if_pos rfl]
    by_cases e : i = j
    · subst e; rw [pk_uLs, hz i h3]; rfl
    · rw [pk_uLn e]; exact h2 i (by omega)
theorem layWM {M : Mm} {u e : Nat → Int} {top : Nat} {Q : Mm → Prop} (ht : top ≤ 5) (hu : ∀ k, k < top → gb M 42 k = jZ (u k)) (he : ∀ k, k < top → gb M 43 (k + 1) = jZ (e (k + 1))) (q : ∀ M', RGn M' M → (∀ i, i < 8 → gb M' 44 i = jZ (wtI u e top i)) → gb M' 42 = gb M 42 → gb M' 43 = gb M 43 → ga M' = ga M → Q M') : wX7_layWeights (nI top) Q M := by
  unfold wX7_layWeights
  rw [show (0 : Int32) = nI 0 from rfl]
  refine up_loop (fun j m => lX7_layWeights_2 (nI top) Q (nI j) m) (fun j m => RGn m M ∧ (∀ i, i < j → gb m 44 i = jZ (wtI u e top i)) ∧ gb m 42 = gb M 42 ∧ gb m 43 = gb M 43 ∧ ga m = ga M) (top + 1) ?_ ?_ 0 _ (Nat.zero_le _) ⟨rg_rf M, fun i hi => absurd hi (Nat.not_lt_zero _), rfl, rfl, rfl⟩
  · rintro m ⟨h1, h2, h4, h5, h6⟩
    refine lX7_layWeights_2_mk _ _ _ _ (br_t (nI_lt (by omega) (by omega)) ?_)
    rw [nI_1]
    exact layW68 ht h2 (fun i hi => wtI_out hi) (fun M' g1 g2 g3 g4 g5 => q M' (rg_tr g1 h1) g2 (g3.trans h4) (g4.trans h5) (g5.trans h6))
  · rintro j m hj ⟨h1, h2, h4, h5, h6⟩ ih
    have hcj : (nI j).toNatClampNeg = j := nI_clamp (by omega)
    refine lX7_layWeights_2_mk _ _ _ _ (br_f (nI_nlt (by omega) (by omega)) ⟨vp_in_nI (by omega) (by decide), nm_e ?_⟩)
    rw [hcj, show (0 : Int32) = nI 0 from rfl]
    refine layW16 (u := u) (e := e) ht (by omega) (fun k hk => ?_) (fun k hk => ?_) ?_ (fun M' g1 g2 g3 g4 g5 g6 => ih M' ⟨rg_tr g1 (rg_sb 44 _ h1 (by omega)), fun i hi => ?_, g4.trans h4, g5.trans h5, g6.trans h6⟩)
    · rw [gb_sb, if_neg (by decide), h4]; exact hu k hk
    · rw [gb_sb, if_neg (by decide), h5]; exact he k hk
    · rw [gb_sb, if_pos rfl, pk_uLs]; rfl
    · by_cases e : i = j
      · subst e; rw [g2, wt_pw u _ top i (by omega)]
      · rw [g3 i e, gb_sb, if_pos rfl, pk_uLn e]; exact h2 i (by omega)
/-- what the reference lays for a row of bars -/
def RMn (d : PD) (b : Nat → Nat) (M : Mm) : Prop := ∀ i, i < 8 → gb M 44 i = jZ (runW d b 5 i)
def RMn2 (d : PD) (b : Nat → Nat) (M : Mm) : Prop := ∀ i, i < 6 → gb M 42 i = jZ (upI (pS d) (joinN d b) i) ∧ gb M 43 i = jZ (dnI (pS d) 12 (joinN d b) i)
theorem layRunM {M : Mm} {d : PD} {b : Nat → Nat} {kk : Nat} {Q : Mm → Prop} (hd : PDok d) (hk : lenA kk = 3) (hkk : kk ≠ 41) (h31 : gi M 31 = nI (pn d)) (h29 : gi M 29 = nI (pS d)) (hb : ∀ s, s < pn d → b s ≤ 5 ∧ ga M kk s = nI (b s)) (hT : ∀ s, s < pn d → ga M 36 s = nI (pT d s)) (q : ∀ M', RGn M' M → RMn d b M' → RMn2 d b M' → Q M') : wX7_layRun kk Q M := by
  unfold wX7_layRun
  have hJ := Jok_d hd b
  have hsd : 1 ≤ pS d ∧ pS d ≤ 11 := ⟨hd.1, hd.2.1⟩
  refine layJoinsM (d := d) (b := b) hk hkk hd.2.2.2.2.1 h31 hb hT (fun M1 hg hjo => ?_)
  rw [show (0 : Int32) = nI 0 from rfl]
  refine up_loop (fun j m => lX7_layRun_7 kk Q (nI j) m) (fun j m => RGn m M ∧ ga m 41 = ga M1 41 ∧ ∀ i, i < j → gb m 42 i = jZ (upI (pS d) (joinN d b) i) ∧ gb m 43 i = jZ (dnI (pS d) 12 (joinN d b) i)) 6 ?_ ?_ 0 _ (Nat.zero_le _) ⟨hg, rfl, fun i hi => absurd hi (Nat.not_lt_zero _)⟩
  · rintro m ⟨h1, h2, h3⟩
    refine lX7_layRun_7_mk _ _ _ _ (br_t (by decide) ?_)
    rw [show (5 : Int32) = nI 5 from rfl]
    refine layWM (u := upI (pS d) (joinN d b)) (e := dnI (pS d) 12 (joinN d b)) (Nat.le_refl _) (fun k hk => (h3 k (by omega)).1) (fun k hk => (h3 (k + 1) (by omega)).2) (fun M' g1 g2 g3 g4 g5 => q M' (rg_tr g1 h1) g2 (fun i hi => ?_))
    rw [g3, g4]; exact h3 i hi
  · rintro j m hj ⟨h1, h2, h3⟩ ih
    have hcj : (nI j).toNatClampNeg = j := nI_clamp (by omega)
    have hv : vp_in (nI j) 8 := vp_in_nI (by omega) (by decide)
    have hJj := hJ.2.2.2 j
    have eS : (gi m 29).toInt64 = jZ (pS d) := by rw [h1.1 29, h29, nI_l (by omega), jZ_N]
    have eJ : (ga m 41 j).toInt64 = jZ (joinN d b j) := by rw [h2, hjo j hj, nI_l (by omega), jZ_N]
    refine lX7_layRun_7_mk _ _ _ _ (br_f (nI_nlt (a := 5) (by omega) (by omega)) ?_)
    rcases Nat.eq_zero_or_pos j with z | z
    · subst z
      refine br_t (by decide) ⟨hv, hv, nm_e (br_t (by decide) ⟨hv, nm_e ?_⟩)⟩
      rw [hcj, eJ, nI_1]
      refine ih _ ⟨rg_sb 43 _ (rg_sb 42 _ h1 (by omega)) (by omega), h2, fun i hi => ?_⟩
      have : i = 0 := by omega
      subst this
      refine ⟨?_, ?_⟩
      · rw [gb_sb, if_neg (by decide), gb_sb, if_pos rfl, pk_uLs, show (12 : Int64) = jZ 12 from rfl, jZ_mul]; rfl
      · rw [gb_sb, if_pos rfl, pk_uLs]; rfl
    · have hz : ¬ nI j = 0 := nI_ne0 z (by omega)
      have hJ1 := hJ.2.2.2 (j - 1)
      have e1 : nI j - 1 = nI (j - 1) := by rw [show (1 : Int32) = nI 1 from rfl, pk_sub (by omega)]
      have hc1 : (nI (j - 1)).toNatClampNeg = j - 1 := nI_clamp (by omega)
      have eJ1 : ((12 : Int32) - ga m 41 (j - 1)).toInt64 = jZ (12 - (joinN d b (j - 1) : Int)) := by
        rw [h2, hjo (j - 1) (by omega), show (12 : Int32) = nI 12 from rfl, pk_sub (by omega), nI_l (by omega), jZ_N]; congr 1; omega
      refine br_f hz ⟨hv, hv, nm_e (br_f hz ⟨by rw [e1]; exact vp_in_nI (by omega) (by decide), hv, nm_e ?_⟩)⟩
      rw [hcj, e1, hc1, nI_1]
      refine ih _ ⟨rg_sb 43 _ (rg_sb 42 _ h1 (by omega)) (by omega), h2, fun i hi => ?_⟩
      by_cases e : i = j
      · subst e
        refine ⟨?_, ?_⟩
        · rw [gb_sb, if_neg (by decide), gb_sb, if_pos rfl, pk_uLs, eS, eJ, show (12 : Int64) = jZ 12 from rfl, jZ_sub, jZ_mul]
          unfold upI; rw [if_neg (by omega)]
        · rw [gb_sb, if_pos rfl, pk_uLs]
          show (gi m 29).toInt64 * ((12 : Int32) - ga m 41 (i - 1)).toInt64 = _
          rw [eS, eJ1, jZ_mul]
          unfold dnI; rw [if_neg (by omega)]; rfl
      · rw [gb_sb, if_neg (by decide), gb_sb, if_pos rfl, pk_uLn e, gb_sb, if_pos rfl, pk_uLn e]
        exact h3 i (by omega)
