/-! place -/
theorem becomesL {M : Mm} {Q : Mm → Prop} (q : ∀ M', (∀ k, gi M' k = gi M k) → (∀ k, k ≠ 13 → k ≠ 14 → k ≠ 15 → ga M' k = ga M k) → (∀ j, j < 3 → ga M' 13 j = ga M 11 j ∧ ga M' 14 j = ga M 12 j ∧ ga M' 15 j = 0) → Q (si (si (si M' 15 0) 16 0) 17 0)) : lX2_becomes_31 Q 0 M := by
  rw [show (0 : Int32) = nI 0 from rfl]
  refine up_loop (fun j m => lX2_becomes_31 Q (nI j) m) (fun j m => (∀ k, gi m k = gi M k) ∧ (∀ k, k ≠ 13 → k ≠ 14 → k ≠ 15 → ga m k = ga M k) ∧ (∀ i, i < j → ga m 13 i = ga M 11 i ∧ ga m 14 i = ga M 12 i ∧ ga m 15 i = 0)) 3 ?_ ?_ 0 _ (Nat.zero_le _) ⟨fun _ => rfl, fun _ _ _ _ => rfl, fun i hi => absurd hi (Nat.not_lt_zero _)⟩
  · rintro m ⟨h1, h2, h3⟩
    exact lX2_becomes_31_mk _ _ _ (br_t (by decide) (nm_e (nm_e (nm_e (q m h1 h2 h3)))))
  · rintro j m hj ⟨h1, h2, h3⟩ ih
    refine lX2_becomes_31_mk _ _ _ (br_f (nI_ge (b := 3) (by omega) (by decide)) ?_)
    refine at_in (n := 3) rfl (by decide) hj (set_in (n := 3) rfl (by decide) hj (at_in (n := 3) rfl (by decide) hj (set_in (n := 3) rfl (by decide) hj (set_in (n := 3) rfl (by decide) hj ?_))))
    rw [nI_1]
    refine ih _ ⟨h1, fun k a b c => ?_, fun i hi => ?_⟩
    · rw [ga_sa, if_neg c, ga_sa, if_neg b, ga_sa, if_neg a]
      exact h2 k a b c
    · show upd (ga m 13) j (ga m 11 j) i = _ ∧ upd (ga m 14) j (ga m 12 j) i = _ ∧ upd (ga m 15) j 0 i = _
      rw [h2 11 (by decide) (by decide) (by decide), h2 12 (by decide) (by decide) (by decide)]
      by_cases e : i = j
      · subst e; rw [pk_us, pk_us, pk_us]; exact ⟨rfl, rfl, rfl⟩
      · rw [pk_un e, pk_un e, pk_un e]; exact h3 i (by omega)
theorem placeL {M : Mm} {n : Nat} {Q : Int32 → Mm → Prop} (hn : n ≤ 3) (h31 : gi M 31 = nI n) (q : ∀ M', (∀ k, gi M' k = gi M k) → (∀ k, k ≠ 36 → k ≠ 37 → k ≠ 38 → ga M' k = ga M k) → (∀ j, j < n → ga M' 36 j = ga M 39 j ∧ ga M' 37 j = ga M 40 j ∧ ga M' 38 j = 0) → Q (gi M' 31) (si (si (si (si (si M' 32 0) 33 0) 34 0) 40 0) 41 0)) : lX7_place_185 Q 0 M := by
  rw [show (0 : Int32) = nI 0 from rfl]
  refine up_loop (fun j m => lX7_place_185 Q (nI j) m) (fun j m => (∀ k, gi m k = gi M k) ∧ (∀ k, k ≠ 36 → k ≠ 37 → k ≠ 38 → ga m k = ga M k) ∧ (∀ i, i < j → ga m 36 i = ga M 39 i ∧ ga m 37 i = ga M 40 i ∧ ga m 38 i = 0)) n ?_ ?_ 0 _ (Nat.zero_le _) ⟨fun _ => rfl, fun _ _ _ _ => rfl, fun i hi => absurd hi (Nat.not_lt_zero _)⟩
  · rintro m ⟨h1, h2, h3⟩
    exact lX7_place_185_mk _ _ _ (br_t (by rw [h1 31, h31]; exact nI_le (Nat.le_refl _) (by omega)) (nm_e (nm_e (nm_e (nm_e (nm_e (q m h1 h2 h3)))))))
  · rintro j m hj ⟨h1, h2, h3⟩ ih
    have hv : vp_in (nI j) 3 := vp_in_nI (by omega) (by decide)
    refine lX7_place_185_mk _ _ _ (br_f (by rw [h1 31, h31]; exact nI_ge hj (by omega)) ⟨hv, hv, nm_e ⟨hv, hv, nm_e ⟨hv, nm_e ?_⟩⟩⟩)
    rw [nI_clamp (by omega), nI_1]
    refine ih _ ⟨h1, fun k a b c => ?_, fun i hi => ?_⟩
    · rw [ga_sa, if_neg c, ga_sa, if_neg b, ga_sa, if_neg a]
      exact h2 k a b c
    · show upd (ga m 36) j (ga m 39 j) i = _ ∧ upd (ga m 37) j (ga m 40 j) i = _ ∧ upd (ga m 38) j 0 i = _
      rw [h2 39 (by decide) (by decide) (by decide), h2 40 (by decide) (by decide) (by decide)]
      by_cases e : i = j
      · subst e; rw [pk_us, pk_us, pk_us]; exact ⟨rfl, rfl, rfl⟩
      · rw [pk_un e, pk_un e, pk_un e]; exact h3 i (by omega)
theorem Rel_new {M F : Mm} {d : PD} (h : Rel M) (hd : PDok d) (hi : gi F 42 = gi M 42 ∧ gi F 0 = gi M 0 ∧ gi F 27 = gi M 27 ∧ gi F 1 = gi M 1 ∧ gi F 26 = gi F 2) (ha : ga F 8 = ga M 8 ∧ ga F 33 = ga M 33 ∧ ga F 9 = ga M 9 ∧ ga F 34 = ga M 34 ∧ ga F 35 = ga M 35 ∧ ga F 10 = ga M 10) (hp : PP d F) (h14 : gi F 14 = nI (pn d)) (h31 : gi F 31 = nI (pn d)) (hz : gi F 15 = 0 ∧ gi F 16 = 0 ∧ gi F 17 = 0 ∧ gi F 32 = 0 ∧ gi F 33 = 0 ∧ gi F 34 = 0) (h22 : gi F 22 = 0) (hq : gi F 23 = 0 ∧ gi F 24 = 0 ∧ gi F 25 = 0 ∧ gi F 40 = 0 ∧ gi F 41 = 0) (hb : ∀ s, s < pn d → ga F 15 s = 0 ∧ ga F 38 s = 0) : Rel F := by
  obtain ⟨hO, hS, -⟩ := h
  obtain ⟨i1, i2, i3, i4, i5⟩ := hi
  obtain ⟨a1, a2, a3, a4, a5, a6⟩ := ha
  obtain ⟨z1, z2, z3, z4, z5, z6⟩ := hz
  obtain ⟨q1, q2, q3, q4, q5⟩ := hq
  refine ⟨⟨by rw [i1, i2]; exact hO.1, by rw [i3, i4]; exact hO.2.1, i5, by rw [i2]; exact hO.2.2.2⟩, fun k hk => ?_, pn d, 0, hd.2.2.2.2.1, h14, h31, ⟨by decide, q1, q4, q5.trans q3.symm, fun j hj => absurd hj (Nat.not_lt_zero _), ⟨by show ([] : List Nat).length ≤ 5; decide, q2, fun i x hx => by simp [stan] at hx⟩⟩, Or.inr ⟨d, hd, rfl, hp, ⟨fun _ => 0, fun s hs => ⟨Nat.zero_le _, (hb s hs).1, (hb s hs).2⟩⟩, ⟨by rw [z1]; decide, z4.trans z1.symm, by rw [z2]; decide, z5.trans z2.symm, by rw [z3]; decide, z6.trans z3.symm⟩, Or.inl h22⟩⟩
  have := hS k hk
  unfold RS1 at *
  rw [a1, a2, a3, a4, a5, a6]
  exact this
theorem rf_both {A B : Mm} (j : Nat) (v : Int32) (h : RF A B) : RF (si A j v) (si B j v) := by
  refine ⟨fun k hk => ?_, fun k hk => h.2 k hk⟩
  rw [gi_si, gi_si]
  by_cases e : k = j
  · rw [if_pos e, if_pos e]
  · rw [if_neg e, if_neg e]; exact h.1 k hk
theorem place_core {M : Mm} {k i N : Nat} {cd : Nat → Int32} {r : RD × Nat × Nat} (h : Rel M) (hb : 60 * k + i + N ≤ 240) (hcm : ∀ j, j < N → ga M 35 (60 * k + i + j) = cd j)
    (hC : ∀ Q, PCh r Q (si M 2 0) → wX5_isTaken (nI k) (nI i) (nI N) Q (si M 2 0)) (hMd : ∀ Q A, CDm (60 * k + i) N cd A → gi A 35 = nI (60 * k + i) → PMh (60 * k + i) r Q A → wX7_readsAll Q A) (hdok : r.1.1 = true → PDok (pdOf r))
    (W : (Int32 → Mm → Prop) → Mm → Prop) (hW : ∀ Q A, (∀ j, dA j = false → 13 ≠ j → 14 ≠ j → 15 ≠ j → ga A j = ga M j) →
      wX7_readsAll (fun r_20 M_20 => ((r_20 = 0 → (Q ((-100 : Int32) - ((gi M_20 35) - (((60 : Int32) * nI k) + nI i))) M_20)) ∧ (¬ r_20 = 0 → (∀ M_22 : Mm, M_22 = (si M_20 28 (1 : Int32)) → (∀ M_23 : Mm, M_23 = (si M_22 29 (gi M_22 37)) → (∀ M_24 : Mm, M_24 = (si M_23 30 (gi M_23 38)) → (∀ M_25 : Mm, M_25 = (si M_24 31 (gi M_24 39)) → (lX7_place_185 Q (0 : Int32) M_25)))))))) (si (si (si A 26 0) 35 (nI (60 * k + i))) 36 (nI (60 * k + i) + nI N)) → W Q A) :
    wX5_isTaken (nI k) (nI i) (nI N) (fun r_16 M_16 => ((r_16 = 0 → (W (fun r2 M2 => (-100 : Int32) - (gi M_16 5) = r2 ∧ Rel M2) M_16)) ∧ (¬ r_16 = 0 → (wX2_becomes (fun M_18 => (wX3_empties (fun M_19 => (wX0_forgets (fun M_20 => (W (fun r2 M2 => gi M_20 14 = r2 ∧ Rel M2) M_20)) M_19)) M_18)) M_16)))) (si M 2 0) := by
  have h0 := Rel_f h 0
  refine hC _ (fun A1 h1 e5 hok => ?_)
  have hcmA : ∀ A : Mm, (ga A 35 = ga M 35) → CDm (60 * k + i) N cd (si (si (si A 26 0) 35 (nI (60 * k + i))) 36 (nI (60 * k + i) + nI N)) := fun A e => ⟨nI_add _ _, hb, fun j hj => by show ga A 35 _ = _; rw [e]; exact hcm j hj⟩
  cases hr : r.1.1 with
  | false =>
    rw [if_neg Bool.false_ne_true]
    refine br_t rfl (hW _ _ (fun j a b c d => h1.2 j a) ?_)
    refine hMd _ _ (hcmA A1 (h1.2 35 rfl)) rfl (fun A7 h7 e35 hok7 => ?_)
    rw [hr, if_neg Bool.false_ne_true]
    refine br_t rfl ⟨?_, ?_⟩
    · rw [e5, e35, ix60', pk_sub (by omega), Nat.add_sub_cancel_left]
    · exact Rel_rf (rf_tr h7 (rf_si 36 _ (rf_si 35 _ (rf_both 26 0 h1) rfl) rfl)) h0
  | true =>
    rw [if_pos rfl]
    obtain ⟨c7, c8, c9, crow⟩ := hok hr
    have hd := hdok hr
    refine br_f one_ne ?_
    unfold wX2_becomes
    refine nm_e (nm_e (nm_e (nm_e ?_)))
    refine becomesL (fun A3 g3 r3 v3 => ?_)
    unfold wX3_empties wX0_forgets
    refine nm_e (nm_e (nm_e (nm_e ?_)))
    refine hW _ _ (fun j a b c d => (r3 j b.symm c.symm d.symm).trans (h1.2 j a)) ?_
    refine hMd _ _ (hcmA _ ((r3 35 (by decide) (by decide) (by decide)).trans (h1.2 35 rfl))) rfl (fun A7 h7 e35 hok7 => ?_)
    rw [hr, if_pos rfl]
    obtain ⟨m37, m38, m39, mrow⟩ := hok7 hr
    refine br_f one_ne (nm_e (nm_e (nm_e (nm_e ?_))))
    refine placeL (n := r.1.2.2.1) hd.2.2.2.2.1 m39 (fun A9 g9 r9 v9 => ?_)
    refine ⟨?_, Rel_new (d := pdOf r) h hd ⟨?_, ?_, ?_, ?_, ?_⟩ ⟨?_, ?_, ?_, ?_, ?_, ?_⟩ ⟨?_, ?_, ?_, ?_, ?_, ?_, fun s hs => ⟨?_, ?_, ?_, ?_⟩⟩ ?_ ?_ ⟨?_, ?_, ?_, rfl, rfl, rfl⟩ ?_ ⟨?_, ?_, ?_, rfl, rfl⟩ (fun s hs => ⟨?_, ?_⟩)⟩
    · exact ((g3 14).trans c9).trans ((g9 31).trans m39).symm
    · exact (g9 42).trans ((h7.1 42 rfl).trans ((g3 42).trans (h1.1 42 rfl)))
    · exact (g9 0).trans ((h7.1 0 rfl).trans ((g3 0).trans (h1.1 0 rfl)))
    · exact (g9 27).trans ((h7.1 27 rfl).trans ((g3 27).trans (h1.1 27 rfl)))
    · exact (g9 1).trans ((h7.1 1 rfl).trans ((g3 1).trans (h1.1 1 rfl)))
    · exact ((g9 26).trans (h7.1 26 rfl)).trans ((g9 2).trans ((h7.1 2 rfl).trans ((g3 2).trans (h1.1 2 rfl)))).symm
    · exact (r9 8 (by decide) (by decide) (by decide)).trans ((h7.2 8 rfl).trans ((r3 8 (by decide) (by decide) (by decide)).trans (h1.2 8 rfl)))
    · exact (r9 33 (by decide) (by decide) (by decide)).trans ((h7.2 33 rfl).trans ((r3 33 (by decide) (by decide) (by decide)).trans (h1.2 33 rfl)))
    · exact (r9 9 (by decide) (by decide) (by decide)).trans ((h7.2 9 rfl).trans ((r3 9 (by decide) (by decide) (by decide)).trans (h1.2 9 rfl)))
    · exact (r9 34 (by decide) (by decide) (by decide)).trans ((h7.2 34 rfl).trans ((r3 34 (by decide) (by decide) (by decide)).trans (h1.2 34 rfl)))
    · exact (r9 35 (by decide) (by decide) (by decide)).trans ((h7.2 35 rfl).trans ((r3 35 (by decide) (by decide) (by decide)).trans (h1.2 35 rfl)))
    · exact (r9 10 (by decide) (by decide) (by decide)).trans ((h7.2 10 rfl).trans ((r3 10 (by decide) (by decide) (by decide)).trans (h1.2 10 rfl)))
    · exact (g9 11).trans ((h7.1 11 rfl).trans (g3 11))
    · exact g9 28
    · exact (g9 12).trans ((h7.1 12 rfl).trans ((g3 12).trans c7))
    · exact (g9 29).trans m37
    · exact (g9 13).trans ((h7.1 13 rfl).trans ((g3 13).trans c8))
    · exact (g9 30).trans m38
    · exact (congrFun ((r9 13 (by decide) (by decide) (by decide)).trans (h7.2 13 rfl)) s).trans ((v3 s (Nat.lt_of_lt_of_le hs hd.2.2.2.2.1)).1.trans (crow s hs).1)
    · exact (v9 s hs).1.trans (mrow s hs).1
    · exact (congrFun ((r9 14 (by decide) (by decide) (by decide)).trans (h7.2 14 rfl)) s).trans ((v3 s (Nat.lt_of_lt_of_le hs hd.2.2.2.2.1)).2.1.trans (crow s hs).2)
    · exact (v9 s hs).2.1.trans (mrow s hs).2
    · exact (g9 14).trans ((h7.1 14 rfl).trans ((g3 14).trans c9))
    · exact (g9 31).trans m39
    · exact (g9 15).trans (h7.1 15 rfl)
    · exact (g9 16).trans (h7.1 16 rfl)
    · exact (g9 17).trans (h7.1 17 rfl)
    · exact (g9 22).trans (h7.1 22 rfl)
    · exact (g9 23).trans (h7.1 23 rfl)
    · exact (g9 24).trans (h7.1 24 rfl)
    · exact (g9 25).trans (h7.1 25 rfl)
    · exact (congrFun ((r9 15 (by decide) (by decide) (by decide)).trans (h7.2 15 rfl)) s).trans (v3 s (Nat.lt_of_lt_of_le hs hd.2.2.2.2.1)).2.2
    · exact (v9 s hs).2.2
theorem isSheet_t {M : Mm} {k : Nat} {A B : Int32 → Mm → Prop} (hk : k < 4) (q : B 1 M) : wX7_isSheet (nI k) (fun r M => (r = 0 → A r M) ∧ (¬ r = 0 → B r M)) M := by
  have c : inI (nI k) 0 3 := by unfold inI; rw [nI_toInt (by omega)]; omega
  unfold wX7_isSheet
  exact within_q 0 3 rfl rfl (fun z => absurd c z) (fun _ => br_f one_ne q)
