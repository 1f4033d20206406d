/-! the best row, on both sides -/
theorem copy84 {m : Mm} {n : Nat} {f : Nat → Nat} {r x : Int32} {y z : Int64} {Q : Mm → Prop} {J : Int64 → Int64 → Int32 → Mm → Prop} (hn : n ≤ 3) (h14 : gi m 14 = nI n) (h24 : ∀ s, s < n → ga m 24 s = nI (f s)) (q : ∀ m', FB m' m → (∀ s, s < n → ga m' 25 s = nI (f s)) → J y z (x + 1) m') : lX0_knowBest_84 r x y z Q J (nI 0) m := by
  refine up_loop (fun j m' => lX0_knowBest_84 r x y z Q J (nI j) m') (fun j m' => gi m' = gi m ∧ (∀ k, k ≠ 25 → ga m' k = ga m k) ∧ ∀ s, s < j → ga m' 25 s = nI (f s)) n ?_ ?_ 0 _ (Nat.zero_le _) ⟨rfl, fun _ _ => rfl, fun s hs => absurd hs (Nat.not_lt_zero _)⟩
  · rintro m' ⟨h1, h2, h3⟩
    exact lX0_knowBest_84_mk _ _ _ _ _ _ _ _ (br_t (by rw [h1, h14]; exact nI_le (Nat.le_refl _) (by omega)) (q m' ⟨fun k _ => congrFun h1 k, fun k p _ => h2 k (by omega)⟩ h3))
  · rintro j m' hj ⟨h1, h2, h3⟩ ih
    refine lX0_knowBest_84_mk _ _ _ _ _ _ _ _ (br_f (by rw [h1, h14]; exact nI_ge hj (by omega)) (at_in (n := 3) rfl (by decide) (by omega) (set_in (n := 3) rfl (by decide) (by omega) ?_)))
    rw [nI_1]
    refine ih _ ⟨h1, fun k hk => by rw [ga_sa, if_neg hk]; exact h2 k hk, fun s hs => ?_⟩
    rw [ga_sa, if_pos rfl]
    by_cases e : s = j
    · subst e; rw [pk_us, h2 24 (by decide)]; exact h24 s hj
    · rw [pk_un e]; exact h3 s (by omega)
theorem copy64 {m : Mm} {n : Nat} {f : Nat → Nat} {x : Int32} {y z : Int64} {Q : Mm → Prop} {J : Int64 → Int64 → Int32 → Mm → Prop} (hn : n ≤ 3) (h31 : gi m 31 = nI n) (h47 : ∀ s, s < n → ga m 47 s = nI (f s)) (q : ∀ m', FR m' m → (∀ s, s < n → ga m' 48 s = nI (f s)) → J y z (x + 1) m') : lX7_findBest_64 x y z Q J (nI 0) m := by
  refine up_loop (fun j m' => lX7_findBest_64 x y z Q J (nI j) m') (fun j m' => gi m' = gi m ∧ (∀ k, k ≠ 48 → ga m' k = ga m k) ∧ ∀ s, s < j → ga m' 48 s = nI (f s)) n ?_ ?_ 0 _ (Nat.zero_le _) ⟨rfl, fun _ _ => rfl, fun s hs => absurd hs (Nat.not_lt_zero _)⟩
  · rintro m' ⟨h1, h2, h3⟩
    exact lX7_findBest_64_mk _ _ _ _ _ _ _ (br_t (by rw [h1, h31]; exact nI_le (Nat.le_refl _) (by omega)) (q m' ⟨fun k _ => congrFun h1 k, fun k p _ => h2 k (by omega)⟩ h3))
  · rintro j m' hj ⟨h1, h2, h3⟩ ih
    have hv : vp_in (nI j) 3 := vp_in_nI (by omega) (by decide)
    refine lX7_findBest_64_mk _ _ _ _ _ _ _ (br_f (by rw [h1, h31]; exact nI_ge hj (by omega)) ⟨hv, hv, nm_e ?_⟩)
    rw [nI_1, nI_clamp (by omega)]
    refine ih _ ⟨h1, fun k hk => by rw [ga_sa, if_neg hk]; exact h2 k hk, fun s hs => ?_⟩
    rw [ga_sa, if_pos rfl]
    by_cases e : s = j
    · subst e; rw [pk_us, h2 47 (by decide)]; exact h47 s hj
    · rw [pk_un e]; exact h3 s (by omega)
theorem knowBestC {M : Mm} {d : PD} {Q : Mm → Prop} (hd : PDok d) (hp : PH d M) (hg : PG d M) (q : ∀ M', FB M' M → gi M' 22 = 1 → (∀ s, s < pn d → ga M' 25 s = nI (bestOf d s)) → Q M') : wX0_knowBest Q M := by
  have hn := hd.2.2.2.2.1
  have h6 := pow6 hn
  unfold wX0_knowBest
  refine br_c (fun z => ?_) (fun z => ?_)
  · rw [hp.1.1]
    refine rowsOfC hn ?_
    rw [show (0 : Int32) = nI 0 from rfl]
    refine up_loop (σ := Int64 × Int64 × Mm) (fun k s => lX0_knowBest_25 (nI (6 ^ pn d)) Q s.1 s.2.1 (nI k) s.2.2) (fun k s => FB s.2.2 M ∧ (k = 0 ∨ ∃ X Y, s.1 = jZ X ∧ s.2.1 = jZ Y ∧ GS d (rowD (pn d) (bestI d k)) X Y ∧ ∀ i, i < pn d → ga s.2.2 25 i = nI (rowD (pn d) (bestI d k) i))) (6 ^ pn d) ?_ ?_ 0 (0, 0, M) (Nat.zero_le _) ⟨fb_rf M, Or.inl rfl⟩
    · rintro ⟨x, y, m⟩ ⟨h1, h2⟩
      have h1 : FB m M := h1
      rcases h2 with h2 | ⟨X, Y, e1, e2, hgs, h3⟩
      · omega
      refine lX0_knowBest_25_mk _ _ _ _ _ _ (br_t (nI_le (Nat.le_refl _) (by omega)) (nm_e (q _ ⟨fun k hk => ?_, h1.2⟩ ?_ h3)))
      · rw [gi_si, if_neg (by omega)]; exact h1.1 k hk
      · rw [gi_si, if_pos rfl]
    · rintro k ⟨x, y, m⟩ hk ⟨h1, h2⟩ ih
      have h1 : FB m M := h1
      refine lX0_knowBest_25_mk _ _ _ _ _ _ (br_f (nI_ge hk (by omega)) (reckRow hd (PH_fb h1 hp) (by omega) (fun m' U L f1 hgs e2 e3 h24 => ?_)))
      have g1 : FB m' M := fb_tr (fb_fr f1) h1
      have hp' := PH_fb g1 hp
      rw [e2, e3, show (0 : Int32) = nI 0 from rfl, nI_eq (by omega) (by omega)]
      refine br_c (fun z => ?_) (fun z => ?_)
      · subst z
        refine copy84 hn hp'.1.1 h24 (fun m2 f2 h25 => ?_)
        rw [nI_1]
        refine ih (jZ U, jZ L, m2) ⟨fb_tr f2 g1, Or.inr ⟨U, L, rfl, rfl, ?_, ?_⟩⟩
        · show GS d (rowD (pn d) (bestI d 1)) U L
          rw [best_1]; exact hgs
        · show ∀ i, i < pn d → ga m2 25 i = nI (rowD (pn d) (bestI d 1) i)
          rw [best_1]; exact h25
      · rcases h2 with h2 | ⟨X, Y, x1, y1, hgb, h3⟩
        · omega
        have x1 : x = jZ X := x1
        have y1 : y = jZ Y := y1
        have h3 : ∀ i, i < pn d → ga m 25 i = nI (rowD (pn d) (bestI d k) i) := h3
        have hst := best_step hgs hgb
        subst x1; subst y1
        refine compareC hgs.2.1 hgs.2.2.2 hgs.2.2.1 hgb.2.1 hgb.2.2.2 hgb.2.2.1 ?_
        rw [show (nI 0 : Int32) = (0 : Int32) from rfl, sg_le0]
        refine br_c (fun c => ?_) (fun c => ?_)
        · rw [if_neg c] at hst
          rw [nI_1]
          refine ih (jZ X, jZ Y, m') ⟨g1, Or.inr ⟨X, Y, rfl, rfl, ?_, ?_⟩⟩
          · show GS d (rowD (pn d) (bestI d (k + 1))) X Y
            rw [hst]; exact hgb
          · show ∀ i, i < pn d → ga m' 25 i = nI (rowD (pn d) (bestI d (k + 1)) i)
            intro i hi
            rw [hst, f1.2 25 (by decide) (by decide)]; exact h3 i hi
        · have c : 0 < U * Y - X * L := by omega
          rw [if_pos c] at hst
          rw [e2, e3]
          refine copy84 hn hp'.1.1 h24 (fun m2 f2 h25 => ?_)
          rw [nI_1]
          refine ih (jZ U, jZ L, m2) ⟨fb_tr f2 g1, Or.inr ⟨U, L, rfl, rfl, ?_, ?_⟩⟩
          · show GS d (rowD (pn d) (bestI d (k + 1))) U L
            rw [hst]; exact hgs
          · show ∀ i, i < pn d → ga m2 25 i = nI (rowD (pn d) (bestI d (k + 1)) i)
            rw [hst]; exact h25
  · rcases hg with hg | ⟨g1, g2⟩
    · exact absurd hg z
    · exact q M (fb_rf M) g1 g2
theorem findBestM {M : Mm} {d : PD} {Q : Mm → Prop} (hd : PDok d) (hp : PH d M) (q : ∀ M', FR M' M → (∀ s, s < pn d → ga M' 48 s = nI (bestOf d s)) → Q M') : wX7_findBest Q M := by
  have hn := hd.2.2.2.2.1
  have h6 := pow6 hn
  unfold wX7_findBest
  rw [show (0 : Int32) = nI 0 from rfl]
  refine up_loop (σ := Int64 × Int64 × Mm) (fun k s => lX7_findBest_7 Q s.1 s.2.1 (nI k) s.2.2) (fun k s => FR s.2.2 M ∧ (k = 0 ∨ ∃ X Y, s.1 = jZ X ∧ s.2.1 = jZ Y ∧ GS d (rowD (pn d) (bestI d k)) X Y ∧ ∀ i, i < pn d → ga s.2.2 48 i = nI (rowD (pn d) (bestI d k) i))) (6 ^ pn d) ?_ ?_ 0 (0, 1, M) (Nat.zero_le _) ⟨fr_rf M, Or.inl rfl⟩
  · rintro ⟨x, y, m⟩ ⟨h1, h2⟩
    have h1 : FR m M := h1
    rcases h2 with h2 | ⟨X, Y, e1, e2, hgs, h3⟩
    · omega
    have hp' := PH_fb (fb_fr h1) hp
    exact lX7_findBest_7_mk _ _ _ _ _ (allRowsM hn hp'.1.2 (br_t (nI_le (Nat.le_refl _) (by omega)) (q _ h1 h3)))
  · rintro k ⟨x, y, m⟩ hk ⟨h1, h2⟩ ih
    have h1 : FR m M := h1
    have hpm := PH_fb (fb_fr h1) hp
    refine lX7_findBest_7_mk _ _ _ _ _ (allRowsM hn hpm.1.2 (br_f (nI_ge hk (by omega)) (layRow47 hd hpm (by omega) (fun m' U L f1 hgs e2 e3 h47 h48 => ?_))))
    have g1 : FR m' M := fr_tr f1 h1
    have hp' := PH_fb (fb_fr g1) hp
    rw [e2, e3, show (0 : Int32) = nI 0 from rfl, nI_eq (by omega) (by omega)]
    refine br_c (fun z => ?_) (fun z => ?_)
    · subst z
      refine copy64 hn hp'.1.2 h47 (fun m2 f2 h25 => ?_)
      rw [nI_1]
      refine ih (jZ U, jZ L, m2) ⟨fr_tr f2 g1, Or.inr ⟨U, L, rfl, rfl, ?_, ?_⟩⟩
      · show GS d (rowD (pn d) (bestI d 1)) U L
        rw [best_1]; exact hgs
      · show ∀ i, i < pn d → ga m2 48 i = nI (rowD (pn d) (bestI d 1) i)
        rw [best_1]; exact h25
    · rcases h2 with h2 | ⟨X, Y, x1, y1, hgb, h3⟩
      · omega
      have x1 : x = jZ X := x1
      have y1 : y = jZ Y := y1
      have h3 : ∀ i, i < pn d → ga m 48 i = nI (rowD (pn d) (bestI d k) i) := h3
      have hst := best_step hgs hgb
      subst x1; subst y1
      refine compareM hgs.2.1 hgs.2.2.2 hgs.2.2.1 hgb.2.1 hgb.2.2.2 hgb.2.2.1 ?_
      rw [show (nI 0 : Int32) = (0 : Int32) from rfl, sg_le0]
      refine br_c (fun c => ?_) (fun c => ?_)
      · rw [if_neg c] at hst
        rw [nI_1]
        refine ih (jZ X, jZ Y, m') ⟨g1, Or.inr ⟨X, Y, rfl, rfl, ?_, ?_⟩⟩
        · show GS d (rowD (pn d) (bestI d (k + 1))) X Y
          rw [hst]; exact hgb
        · show ∀ i, i < pn d → ga m' 48 i = nI (rowD (pn d) (bestI d (k + 1)) i)
          intro i hi
          rw [hst, h48]; exact h3 i hi
      · have c : 0 < U * Y - X * L := by omega
        rw [if_pos c] at hst
        rw [e2, e3]
        refine copy64 hn hp'.1.2 h47 (fun m2 f2 h25 => ?_)
        rw [nI_1]
        refine ih (jZ U, jZ L, m2) ⟨fr_tr f2 g1, Or.inr ⟨U, L, rfl, rfl, ?_, ?_⟩⟩
        · show GS d (rowD (pn d) (bestI d (k + 1))) U L
          rw [hst]; exact hgs
        · show ∀ i, i < pn d → ga m2 48 i = nI (rowD (pn d) (bestI d (k + 1)) i)
          rw [hst]; exact h25
theorem ok_best {M : Mm} (v : Int32) (h : Rel M) : okI (wX6_best v) (wX7_best v) M := by
  unfold okI wX6_best wX7_best wX2_has
  obtain ⟨hO, hS, n, k, hn, h14, h31, hQ, hP⟩ := id h
  refine has_br (cnt := gi M 14) h14 (by omega) (fun q => isSort_n h31 (by omega) q ⟨rfl, h⟩) (fun j hj q => ?_)
  subst q
  rcases told_cases hP with ⟨h0, h1, h2⟩ | ⟨h1, h2, d, hd, hdn, hp, hba, hb, hg⟩
  · omega
  subst hdn
  refine knowBestC hd ⟨⟨h14, h31⟩, hp⟩ hg (fun M1 f1 g1 g2 => ?_)
  have hp1 := PH_fb f1 ⟨⟨h14, h31⟩, hp⟩
  refine at_in (n := 3) rfl (by decide) (by omega) (isSort_t hp1.1.2 (by omega) hj (findBestM hd hp1 (fun M2 f2 g3 => ⟨vp_in_nI (by omega) (by decide), ?_, ?_⟩)))
  · rw [nI_clamp (by omega), g2 j hj, g3 j hj]
  · refine Rel_fb (fb_tr (fb_fr f2) f1) hO hS hn h14 h31 hQ hd rfl hp hba hb (Or.inr ⟨?_, fun s hs => ?_⟩)
    · rw [f2.1 22 (by decide)]; exact g1
    · rw [f2.2 25 (by decide) (by decide)]; exact g2 s hs
theorem within_r {M : Mm} {v : Int32} {N : Nat} (hN : 1 ≤ N ∧ N ≤ 216) : (nI N - (1 : Int32)).toInt = (N : Int) - 1 := by
  rw [show (1 : Int32) = nI 1 from rfl, pk_sub hN.1, nI_toInt (by omega)]; omega
theorem ok_against {M : Mm} (a b : Int32) (h : Rel M) : okI (wX6_against a b) (wX7_against a b) M := by
  unfold okI wX6_against wX7_against
  obtain ⟨hO, hS, n, k, hn, h14, h31, hQ, hP⟩ := id h
  have h6 := pow6 hn
  have hw := within_r (M := M) (v := a) h6
  rw [h14]
  refine rowsOfC hn ?_
  refine isWithin_br 0 _ rfl hw (fun c => allRowsM hn h31 (within_n 0 _ rfl hw c ⟨rfl, h⟩)) (fun c => ?_)
  refine isWithin_br 0 _ rfl hw (fun e => allRowsM hn h31 (within_t 0 _ rfl hw c (allRowsM hn h31 (within_n 0 _ rfl hw e ⟨rfl, h⟩)))) (fun e => ?_)
  rcases told_cases hP with ⟨h0, h1, h2⟩ | ⟨h1, h2, d, hd, hdn, hp, hba, hb, hg⟩
  · exact br_t h1 (allRowsM hn h31 (within_t 0 _ rfl hw c (allRowsM hn h31 (within_t 0 _ rfl hw e (br_t h2 ⟨rfl, h⟩)))))
  subst hdn
  refine br_f (by rw [h1]; decide) ?_
  have hph : PH d M := ⟨⟨h14, h31⟩, hp⟩
  obtain ⟨i, hi, rfl⟩ := inI_nI c (n := 6 ^ pn d - 1) (by omega)
  obtain ⟨j, hj, rfl⟩ := inI_nI e (n := 6 ^ pn d - 1) (by omega)
  refine reckRow hd hph (by omega) (fun M1 U L f1 gs1 e1 e2 _ => ?_)
  have hp1 := PH_fb (fb_fr f1) hph
  refine reckRow hd hp1 (by omega) (fun M2 X Y f2 gs2 x1 x2 _ => ?_)
  have hp2 := PH_fb (fb_fr f2) hp1
  rw [e1, e2, x1, x2]
  refine compareC gs1.2.1 gs1.2.2.2 gs1.2.2.1 gs2.2.1 gs2.2.2.2 gs2.2.2.1 ?_
  refine allRowsM hn hp2.1.2 (within_t 0 _ rfl hw c (allRowsM hn hp2.1.2 (within_t 0 _ rfl hw e (br_f (by rw [hp2.2.2.1]; decide) ?_))))
  refine layRow47 hd hp2 (by omega) (fun M3 U' L' f3 gs3 e3 e4 _ _ => ?_)
  have hp3 := PH_fb (fb_fr f3) hp2
  refine layRow47 hd hp3 (by omega) (fun M4 X' Y' f4 gs4 x3 x4 _ _ => ?_)
  rw [e3, e4, x3, x4]
  refine compareM gs3.2.1 gs3.2.2.2 gs3.2.2.1 gs4.2.1 gs4.2.2.2 gs4.2.2.1 ⟨?_, Rel_fr (fr_tr f4 (fr_tr f3 (fr_tr f2 f1))) h⟩
  obtain ⟨D, hD, z1⟩ := GS_cross gs1 gs2
  obtain ⟨D2, hD2, z2⟩ := GS_cross gs3 gs4
  rw [← sg_sc hD, ← z1, z2, sg_sc hD2]
