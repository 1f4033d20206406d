/-- the weights that come out: those of the lengths that come -/
abbrev wtS (S Wh : Nat) (J : Nat → Nat) (m : Nat) : Nat → Int := wtI (upI S J) (dnI S Wh J) m
def runC (o S Wh : Nat) (J : Nat → Nat) (M1 M : Mm) : Prop := RLn o M1 M ∧ RJn o S Wh J M1 ∧ ∃ m, m ≤ 5 ∧ (m = 5 ∨ upI S J m = 0) ∧ gj M1 o = jZ (totI (wtS S Wh J m)) ∧ ∀ i, i < 6 → gb M1 (17 + 4 * o) i = jZ (wtS S Wh J m i)
section RUN2
variable {o S Wh : Nat} {J : Nat → Nat} {M : Mm}
theorem weigh34 {Q : Mm → Prop} {J2 : Int32 → Mm → Prop} (ho : o < 2) (hj : Jok S Wh J) (q : ∀ M', runC o S Wh J M' M → Q M') (hr : RJn o S Wh J M) (hw : ∀ i, i < 6 → gb M (17 + 4 * o) i = jZ (wtS S Wh J 0 i)) : lX1_weigh_34 o Q J2 (nI 1) M := by
  have z0 : rgL 0 := ⟨by decide, by decide⟩
  -- the sum of what is laid
  have stop : ∀ m k, k ≤ 5 → (k = 5 ∨ upI S J k = 0) → RLn o m M → RJn o S Wh J m → (∀ i, i < 6 → gb m (17 + 4 * o) i = jZ (wtS S Wh J k i)) → lX1_weigh_126 o Q J2 (lX1_weigh_34 o Q J2) (nI 0) (sj m o 0) := fun m k hk hk2 h1 h2 h3 =>
    weigh126 (w := wtS S Wh J k) ho (fun M' g1 g2 g3 g4 => q M' ⟨rl_tr g1 (rl_sj _ h1), g2, k, hk, hk2, g3, g4⟩) h2 (by rw [gj_sj, if_pos rfl]; rfl) h3
  have hu : ∀ k, rgL (upI S J k) := fun k => by
    have := upI_rg hj k
    have := hj.2.2.1
    exact ⟨by omega, by omega⟩
  refine up_loop (fun k m => lX1_weigh_34 o Q J2 (nI (k + 1)) m) (fun k m => RLn o m M ∧ RJn o S Wh J m ∧ ∀ i, i < 6 → gb m (17 + 4 * o) i = jZ (wtS S Wh J k i)) 5 ?_ ?_ 0 _ (Nat.zero_le _) ⟨rl_rf o M, hr, hw⟩
  · rintro m ⟨h1, h2, h3⟩
    exact lX1_weigh_34_mk _ _ _ _ _ (br_t (nI_le (a := 6) (Nat.le_refl _) (by omega)) (nm_e (stop m 5 (Nat.le_refl _) (Or.inl rfl) h1 h2 h3)))
  · rintro k m hk ⟨h1, h2, h3⟩ ih
    refine lX1_weigh_34_mk _ _ _ _ _ (br_f (nI_ge (b := 6) (by omega) (by omega)) ?_)
    rw [nI_pred]
    have hn := upI_rg hj k
    refine growsC ho hj h2 (by omega) (br_c (fun g => nm_e ?_) (fun g => ?_))
    · rw [show (0 : Int64) = jZ 0 from rfl, jZ_le (hu k) z0] at g
      exact stop m k (by omega) (Or.inr (by omega)) h1 h2 h3
    · refine atJ_in (n := 6) (len17 ho) (by decide) (by omega) (growsC ho hj h2 (by omega) (setJ_in (n := 6) (len17 ho) (by decide) (by omega) ?_))
      rw [show (0 : Int32) = nI 0 from rfl]
      refine weigh80 (w := fun i => if i = k + 1 then wtS S Wh J k k * upI S J k else wtS S Wh J k i) ho hj (by omega) (fun M' g1 g2 g3 => ih M' ⟨rl_tr g1 (rl_sb _ h1), g2, fun i hi => ?_⟩) h2 (fun i hi => ?_)
      · rw [g3 i hi]
        congr 1
        show (if i < k + 1 then (if i = k + 1 then wtS S Wh J k k * upI S J k else wtS S Wh J k i) * dnI S Wh J (k + 1) else (if i = k + 1 then wtS S Wh J k k * upI S J k else wtS S Wh J k i)) = _
        by_cases e : i < k + 1
        · rw [if_pos e, if_neg (by omega)]
          exact (wtI_le (by omega)).symm
        · rw [if_neg e]
          by_cases e2 : i = k + 1
          · subst e2
            rw [if_pos rfl]
            exact (wtI_top _ _ _).symm
          · rw [if_neg e2]
            exact (wtI_out (by omega)).trans (wtI_out (by omega)).symm
      · rw [gb_sb, if_pos rfl]
        show _ = jZ (if i = k + 1 then wtS S Wh J k k * upI S J k else wtS S Wh J k i)
        by_cases e : i = k + 1
        · subst e
          rw [pk_uLs, if_pos rfl, h3 k (by omega), jZ_mul]
        · rw [pk_uLn e, if_neg e, h3 i hi]
theorem weighC {Q : Mm → Prop} (ho : o < 2) (hj : Jok S Wh J) (hr : RJn o S Wh J M) (q : ∀ M', runC o S Wh J M' M → Q M') : wX1_weigh o Q M := by
  unfold wX1_weigh
  rw [show (0 : Int32) = nI 0 from rfl]
  refine up_loop (fun k m => lX1_weigh_2 o Q (nI k) m) (fun k m => RLn o m M ∧ RJn o S Wh J m ∧ ∀ i, i < k → gb m (17 + 4 * o) i = jZ 0) 6 ?_ ?_ 0 _ (Nat.zero_le _) ⟨rl_rf o M, hr, fun i hi => absurd hi (Nat.not_lt_zero _)⟩
  · rintro m ⟨h1, h2, h3⟩
    refine lX1_weigh_2_mk _ _ _ _ (br_t (nI_le (a := 6) (Nat.le_refl _) (by omega)) ?_)
    rw [show (0 : Int32) = nI 0 from rfl]
    refine setJ_in (n := 6) (len17 ho) (by decide) (by omega) ?_
    rw [show (1 : Int32) = nI 1 from rfl]
    refine weigh34 ho hj (fun M' g => q M' ⟨rl_tr g.1 (rl_sb _ h1), g.2⟩) h2 (fun i hi => ?_)
    rw [gb_sb, if_pos rfl]
    by_cases e : i = 0
    · subst e; rw [pk_uLs]; rfl
    · rw [pk_uLn e, h3 i hi]
      congr 1
      exact (if_neg e).symm
  · rintro k m hk ⟨h1, h2, h3⟩ ih
    refine lX1_weigh_2_mk _ _ _ _ (br_f (nI_ge (b := 6) hk (by omega)) (setJ_in (n := 6) (len17 ho) (by decide) (by omega) ?_))
    rw [nI_1]
    refine ih _ ⟨rl_sb _ h1, h2, fun i hi => ?_⟩
    rw [gb_sb, if_pos rfl]
    by_cases e : i = k
    · subst e; rw [pk_uLs]; rfl
    · rw [pk_uLn e, h3 i (by omega)]
end RUN2
theorem joiningC {M : Mm} {d : PD} {b : Nat → Nat} {kk k : Nat} {Q : Int32 → Mm → Prop} (hk : lenA kk = 3) (hd : pn d ≤ 3) (h14 : gi M 14 = nI (pn d)) (hb : ∀ s, s < pn d → b s ≤ 5 ∧ ga M kk s = nI (b s)) (hT : ∀ s, s < pn d → ga M 13 s = nI (pT d s)) (hkk : k < 6) (q : Q (nI (joinN d b k)) M) : wX2_joining kk (nI k) Q M := by
  unfold wX2_joining
  rw [show (0 : Int32) = nI 0 from rfl]
  refine up_loop (fun j (_ : Unit) => lX2_joining_5 kk (nI k) Q (nI (sumTo (fun s => if k < b s then pT d s else 0) j)) (nI j) M) (fun _ _ => True) (pn d) ?_ ?_ 0 () (Nat.zero_le _) trivial
  · rintro _ -
    exact lX2_joining_5_mk _ _ _ _ _ _ (br_t (by rw [h14]; exact nI_le (Nat.le_refl _) (by omega)) q)
  · rintro j _ hj - ih
    have ih := ih () trivial
    have hbj := hb j hj
    refine lX2_joining_5_mk _ _ _ _ _ _ (br_f (by rw [h14]; exact nI_ge hj (by omega)) (at_in (n := 3) hk (by decide) (by omega) (br_c (fun g => ?_) (fun g => ?_))))
    · rw [hbj.2, nI_leI (by omega) (by omega)] at g
      rw [nI_1]
      have e : sumTo (fun s => if k < b s then pT d s else 0) (j + 1) = sumTo (fun s => if k < b s then pT d s else 0) j := by
        show _ + (if k < b j then pT d j else 0) = _
        rw [if_neg (by omega)]; rfl
      rw [e] at ih; exact ih
    · rw [hbj.2, nI_leI (by omega) (by omega)] at g
      refine at_in (n := 3) rfl (by decide) (by omega) ?_
      rw [hT j hj, nI_add, nI_1]
      have e : sumTo (fun s => if k < b s then pT d s else 0) (j + 1) = sumTo (fun s => if k < b s then pT d s else 0) j + pT d j := by
        show _ + (if k < b j then pT d j else 0) = _
        rw [if_pos (by omega)]
      rw [e] at ih; exact ih
theorem joinN_le (d : PD) (b : Nat → Nat) (k : Nat) : joinN d b k ≤ sumTo (pT d) (pn d) := by
  have : ∀ n, sumTo (fun s => if k < b s then pT d s else 0) n ≤ sumTo (pT d) n := by
    intro n
    induction n with
    | zero => exact Nat.le_refl _
    | succ n ih =>
      show _ + (if k < b n then pT d n else 0) ≤ sumTo (pT d) n + pT d n
      split <;> omega
  exact this _
theorem Jok_d {d : PD} (hd : PDok d) (b : Nat → Nat) : Jok (pS d) 12 (joinN d b) := ⟨hd.1, hd.2.1, by decide, fun n => by
  have := joinN_le d b n
  have := hd.2.2.2.2.2.2.1
  omega⟩
/-- the registers of the class's run, over a place -/
def RCn (o : Nat) (d : PD) (b : Nat → Nat) (M1 M : Mm) : Prop := runC o (pS d) 12 (joinN d b) M1 M
theorem comeC {M : Mm} {o : Nat} {d : PD} {b : Nat → Nat} {kk : Nat} {Q : Mm → Prop} (ho : o < 2) (hd : PDok d) (hk : lenA kk = 3) (hkk : kk = 15 ∨ kk = 24) (h12 : gi M 12 = nI (pS d)) (h14 : gi M 14 = nI (pn d)) (hb : ∀ s, s < pn d → b s ≤ 5 ∧ ga M kk s = nI (b s)) (hT : ∀ s, s < pn d → ga M 13 s = nI (pT d s)) (q : ∀ M', (∀ k, k ≠ 18 + 2 * o → k ≠ 19 + 2 * o → gi M' k = gi M k) → (∀ k, k ≠ 16 + 4 * o → ga M' k = ga M k) → (∀ k, k ≠ o → gj M' k = gj M k) → (∀ k, k ≠ 17 + 4 * o → gb M' k = gb M k) → RCn o d b M' M' → Q M') : wX1_comeByBars o kk Q M := by
  unfold wX1_comeByBars
  refine nm_e (nm_e ?_)
  rw [show (0 : Int32) = nI 0 from rfl]
  refine up_loop (fun k m => lX1_comeByBars_16 o kk Q (nI k) m) (fun k m => (RLn o m M ∧ gi m (18 + 2 * o) = nI (pS d) ∧ gi m (19 + 2 * o) = nI 12) ∧ ∀ i, i < k → ga m (16 + 4 * o) i = nI (joinN d b i)) 6 ?_ ?_ 0 _ (Nat.zero_le _) ⟨⟨⟨fun k p r => ?_, fun _ _ => rfl, fun _ _ => rfl, fun _ _ => rfl⟩, ?_, ?_⟩, fun i hi => absurd hi (Nat.not_lt_zero _)⟩
  · rintro m ⟨⟨h1, h2, h3⟩, h4⟩
    refine lX1_comeByBars_16_mk _ _ _ _ _ (br_t (nI_le (a := 6) (Nat.le_refl _) (by omega)) (weighC ho (Jok_d hd b) ⟨h2, h3, h4⟩ (fun M' g => ?_)))
    have ht := rl_tr g.1 h1
    exact q M' ht.1 ht.2.1 ht.2.2.1 ht.2.2.2 ⟨rl_rf o M', g.2⟩
  · rintro k m hk' ⟨⟨h1, h2, h3⟩, h4⟩ ih
    refine lX1_comeByBars_16_mk _ _ _ _ _ (br_f (nI_ge (b := 6) hk' (by omega)) (joiningC (d := d) (b := b) hk hd.2.2.2.2.1 ?_ (fun s hs => ?_) (fun s hs => ?_) hk' (set_in (n := 6) (len16 ho) (by decide) hk' ?_)))
    · rw [h1.1 14 (by omega) (by omega)]; exact h14
    · rw [h1.2.1 kk (by omega)]; exact hb s hs
    · rw [h1.2.1 13 (by omega)]; exact hT s hs
    · rw [nI_1]
      refine ih _ ⟨⟨rl_sa _ h1, h2, h3⟩, fun i hi => ?_⟩
      rw [ga_sa, if_pos rfl]
      by_cases e : i = k
      · subst e; rw [pk_us]
      · rw [pk_un e]; exact h4 i (by omega)
  · rw [gi_si, if_neg r, gi_si, if_neg p]
  · rw [gi_si, if_neg (by omega), gi_si, if_pos rfl]; exact h12
  · rw [gi_si, if_pos rfl]; rfl
