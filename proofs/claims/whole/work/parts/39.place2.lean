theorem ok_place {M : Mm} (a l i n : Int32) (h : Rel M) : okI (wX6_place a l i n) (wX7_place a l i n) M := by
  unfold okI wX6_place
  refine nm_e (isWithin_br 0 3 rfl rfl (fun c => ?_) (fun c => ?_))
  · unfold wX7_place
    exact nm_e (within_n 0 3 rfl rfl c ⟨rfl, Rel_f h 0⟩)
  refine isWithin_br 0 2 rfl rfl (fun e => ?_) (fun e => ?_)
  · unfold wX7_place
    exact nm_e (within_t 0 3 rfl rfl c (within_n 0 2 rfl rfl e ⟨rfl, Rel_f h 0⟩))
  obtain ⟨k, hk, rfl⟩ := sh_k c
  have hv : vp_in (nI k) 4 := vp_in_nI hk (by decide)
  have hc : (nI k).toNatClampNeg = k := nI_clamp (by omega)
  have fl : ∀ x, Rel (si (si (si (si M 2 0) 2 x) 26 0) 26 x) := fun x => ⟨⟨h.1.1, h.1.2.1, rfl, h.1.2.2.2⟩, h.2⟩
  unfold wX4_isOfAnotherLane
  rcases h.2.1 k hk with ⟨h1, h2⟩ | ⟨h1, h2, n0, hn, h3, h4, h5⟩
  · refine hasNothing_t hk h1 (br_f one_ne (br_t rfl (hasNothing_t hk h1 (br_f one_ne ?_))))
    unfold wX6_faulted wX7_place
    refine nm_e (nm_e (within_t 0 3 rfl rfl c (within_t 0 2 rfl rfl e ⟨hv, br_t (by rw [hc]; exact h2) ⟨hv, br_t (by rw [hc]; exact h2) ?_⟩⟩)))
    unfold wX7_fails
    exact nm_e ⟨rfl, fl 1⟩
  obtain ⟨v1, v2, -⟩ := lane_v h1
  have e9 : (ga M 9 k).toInt = (n0 : Int) := by rw [h3]; exact nI_toInt (by omega)
  have v3 : ¬ ga M 33 k = -9 := by rw [h2]; exact v2
  refine hasNothing_n hk v1 (br_t rfl (at_in (n := 4) rfl (by decide) hk (br_c (fun g => ?_) (fun g => ?_))))
  rotate_left
  · refine br_f one_ne ?_
    unfold wX6_faulted wX7_place
    refine nm_e (nm_e (within_t 0 3 rfl rfl c (within_t 0 2 rfl rfl e ⟨hv, br_f (by rw [hc]; exact v3) ⟨hv, br_f (by rw [hc]; exact fun q => g (h2.symm.trans q)) ?_⟩⟩)))
    unfold wX7_fails
    exact nm_e ⟨rfl, fl 2⟩
  have pre : ∀ {Q : Int32 → Mm → Prop} {A : Mm}, ga A 33 k = ga M 33 k → ((0 ≤ n → ((i < 0 → (wX7_fails (3 : Int32) (fun r_49 M_49 => (Q r_49 M_49)) (si A 26 0))) ∧ (¬ i < 0 → (vp_in (nI k) 4 ∧ (((ga (si A 26 0) 34 (nI k).toNatClampNeg) < i → (wX7_fails (3 : Int32) (fun r_52 M_52 => (Q r_52 M_52)) (si A 26 0))) ∧ (¬ (ga (si A 26 0) 34 (nI k).toNatClampNeg) < i → (vp_in (nI k) 4 ∧ ((n ≤ ((ga (si A 26 0) 34 (nI k).toNatClampNeg) - i) → (∀ M_55 : Mm, M_55 = (si (si A 26 0) 35 (((60 : Int32) * (nI k)) + i)) → (∀ M_56 : Mm, M_56 = (si M_55 36 ((((60 : Int32) * (nI k)) + i) + n)) → (wX7_readsAll (fun r_57 M_57 => ((r_57 = 0 → (Q ((-100 : Int32) - ((gi M_57 35) - (((60 : Int32) * (nI k)) + i))) M_57)) ∧ (¬ r_57 = 0 → (∀ M_59 : Mm, M_59 = (si M_57 28 (1 : Int32)) → (∀ M_60 : Mm, M_60 = (si M_59 29 (gi M_59 37)) → (∀ M_61 : Mm, M_61 = (si M_60 30 (gi M_60 38)) → (∀ M_62 : Mm, M_62 = (si M_61 31 (gi M_61 39)) → (lX7_place_185 Q (0 : Int32) M_62)))))))) M_56)))) ∧ (¬ n ≤ ((ga (si A 26 0) 34 (nI k).toNatClampNeg) - i) → (wX7_fails (3 : Int32) (fun r_77 M_77 => (Q r_77 M_77)) (si A 26 0))))))))))) ∧ (¬ 0 ≤ n → (wX7_fails (4 : Int32) (fun r_78 M_78 => (Q r_78 M_78)) (si A 26 0)))) → wX7_place (nI k) l i n Q A := fun {Q A} e33 q => by
    unfold wX7_place
    refine nm_e (within_t 0 3 rfl rfl c (within_t 0 2 rfl rfl e ⟨hv, br_f ?_ ⟨hv, br_t ?_ ⟨hv, br_f ?_ q⟩⟩⟩))
    · show ¬ ga A 33 (nI k).toNatClampNeg = -9
      rw [hc, e33]; exact v3
    · show ga A 33 (nI k).toNatClampNeg = l
      rw [hc, e33]; exact h2.trans g
    · show ¬ ga A 33 (nI k).toNatClampNeg = -9
      rw [hc, e33]; exact v3
  refine br_t rfl (hasNothing_n hk v1 (br_t rfl (br_c (fun z => sizeOf_ok hk (isWithin_br 0 n0 rfl e9 (fun y => ?_) (fun y => br_c (fun w => ?_) (fun w => ?_)))) (fun z => ?_))))
  · unfold wX6_faulted
    refine nm_e (pre rfl (br_t z (br_c (fun b => ?_) (fun b => ⟨hv, br_c (fun b2 => ?_) (fun b2 => absurd ⟨?_, ?_⟩ y)⟩))))
    · unfold wX7_fails
      exact nm_e ⟨rfl, fl 3⟩
    · unfold wX7_fails
      exact nm_e ⟨rfl, fl 3⟩
    · rw [i_lt] at b
      have z0 : (0 : Int32).toInt = 0 := rfl
      omega
    · have b2' : ¬ ga M 34 (nI k).toNatClampNeg < i := b2
      rw [hc, h4, i_lt, nI_toInt (by omega)] at b2'
      omega
  · obtain ⟨i', hi', rfl⟩ := inI_nI y (n := n0) rfl
    obtain ⟨N, hN, rfl⟩ := nI_of (x := n) (by rw [i_le] at z; rw [i_lt]; omega)
    have w' : nI N ≤ ga M 9 k - nI i' := w
    rw [h3, pk_sub hi', nI_leI hN (by omega)] at w'
    have hb : 60 * k + i' + N ≤ 240 := by omega
    refine place_core (cd := fun j => ga M 10 (60 * k + i' + j)) h hb (fun j hj => ?_) (fun Q q => readC hb (fun j hj => rfl) q) (fun Q A a b c => readM a b c) readP_ok (fun Q A => wX7_place (nI k) l (nI i') (nI N) Q A) (fun Q A hA hq => ?_)
    · rw [Nat.add_assoc]
      exact h5 (i' + j) (by omega)
    · refine pre (congrFun (hA 33 rfl (by decide) (by decide) (by decide)) k) (br_t z (br_f (nI_pos (by omega)) ⟨hv, br_f ?_ ⟨hv, br_t ?_ (nm_e (nm_e ?_))⟩⟩))
      · show ¬ ga A 34 (nI k).toNatClampNeg < nI i'
        rw [hc, hA 34 rfl (by decide) (by decide) (by decide), h4]
        exact nI_nlt hi' (by omega)
      · show nI N ≤ ga A 34 (nI k).toNatClampNeg - nI i'
        rw [hc, hA 34 rfl (by decide) (by decide) (by decide), h4, pk_sub hi', nI_leI hN (by omega)]
        exact w'
      · rw [← ix60' k i'] at hq
        exact hq
  · obtain ⟨i', hi', rfl⟩ := inI_nI y (n := n0) rfl
    unfold wX6_faulted
    refine nm_e (pre rfl (br_t z (br_f (nI_pos (by omega)) ⟨hv, br_f ?_ ⟨hv, br_f ?_ ?_⟩⟩)))
    · show ¬ ga M 34 (nI k).toNatClampNeg < nI i'
      rw [hc, h4]
      exact nI_nlt hi' (by omega)
    · show ¬ n ≤ ga M 34 (nI k).toNatClampNeg - nI i'
      rw [hc, h4, ← h3]
      exact w
    · unfold wX7_fails
      exact nm_e ⟨rfl, fl 3⟩
  · unfold wX6_faulted
    refine nm_e (pre rfl (br_f z ?_))
    unfold wX7_fails
    exact nm_e ⟨rfl, fl 4⟩
