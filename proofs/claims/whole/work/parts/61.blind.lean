/-! nothing seen -/
def JB (k T n : Nat) : Nat := if n < 4 then k * T else 0
theorem JB_ok {S k T : Nat} (hS : 1 ≤ S ∧ S ≤ 11) (hk : k ≤ 12) (hT : T ≤ 11) : Jok S 144 (JB k T) := ⟨hS.1, hS.2, by decide, fun n => by
  have : k * T ≤ 12 * 11 := Nat.mul_le_mul hk hT
  unfold JB
  split <;> omega⟩
theorem JB_4 (S k T : Nat) : upI S (JB k T) 4 = 0 := by
  unfold upI JB
  rw [if_neg (by decide), if_neg (by decide)]; simp
def runB (o S Wh : Nat) (J : Nat → Nat) (M1 M : Mm) : Prop := RLn o M1 M ∧ RJn o S Wh J M1 ∧ ∃ m, m ≤ 5 ∧ (m = 5 ∨ upI S J m = 0) ∧ (∀ k, k < m → 0 < upI S J k) ∧ gj M1 o = jZ (totI (wtS S Wh J m)) ∧ ∀ i, i < 6 → gb M1 (17 + 4 * o) i = jZ (wtS S Wh J m i)
section RUN3
variable {o S Wh : Nat} {J : Nat → Nat} {M : Mm}
theorem weighB34 {Q : Mm → Prop} {J2 : Int32 → Mm → Prop} (ho : o < 2) (hj : Jok S Wh J) (q : ∀ M', runB o S Wh J M' M → Q M') (hr : RJn o S Wh J M) (hw : ∀ i, i < 6 → gb M (17 + 4 * o) i = jZ (wtS S Wh J 0 i)) : lX1_weigh_34 o Q J2 (nI 1) M := by
  have z0 : rgL 0 := ⟨by decide, by decide⟩
  have stop : ∀ m k, k ≤ 5 → (k = 5 ∨ upI S J k = 0) → (∀ j, j < k → 0 < upI S J j) → RLn o m M → RJn o S Wh J m → (∀ i, i < 6 → gb m (17 + 4 * o) i = jZ (wtS S Wh J k i)) → lX1_weigh_126 o Q J2 (lX1_weigh_34 o Q J2) (nI 0) (sj m o 0) := fun m k hk hk2 hk3 h1 h2 h3 =>
    weigh126 (w := wtS S Wh J k) ho (fun M' g1 g2 g3 g4 => q M' ⟨rl_tr g1 (rl_sj _ h1), g2, k, hk, hk2, hk3, g3, g4⟩) h2 (by rw [gj_sj, if_pos rfl]; rfl) h3
  have hu : ∀ k, rgL (upI S J k) := fun k => by
    have := upI_rg hj k
    have := hj.2.2.1
    exact ⟨by omega, by omega⟩
  refine up_loop (fun k m => lX1_weigh_34 o Q J2 (nI (k + 1)) m) (fun k m => RLn o m M ∧ RJn o S Wh J m ∧ (∀ j, j < k → 0 < upI S J j) ∧ ∀ i, i < 6 → gb m (17 + 4 * o) i = jZ (wtS S Wh J k i)) 5 ?_ ?_ 0 _ (Nat.zero_le _) ⟨rl_rf o M, hr, fun j hj => absurd hj (Nat.not_lt_zero _), hw⟩
  · rintro m ⟨h1, h2, hp, h3⟩
    exact lX1_weigh_34_mk _ _ _ _ _ (br_t (nI_le (a := 6) (Nat.le_refl _) (by omega)) (nm_e (stop m 5 (Nat.le_refl _) (Or.inl rfl) hp h1 h2 h3)))
  · rintro k m hk ⟨h1, h2, hp, h3⟩ ih
    refine lX1_weigh_34_mk _ _ _ _ _ (br_f (nI_ge (b := 6) (by omega) (by omega)) ?_)
    rw [nI_pred]
    have hn := upI_rg hj k
    refine growsC ho hj h2 (by omega) (br_c (fun g => nm_e ?_) (fun g => ?_))
    · rw [show (0 : Int64) = jZ 0 from rfl, jZ_le (hu k) z0] at g
      exact stop m k (by omega) (Or.inr (by omega)) hp h1 h2 h3
    · rw [show (0 : Int64) = jZ 0 from rfl, jZ_le (hu k) z0] at g
      refine atJ_in (n := 6) (len17 ho) (by decide) (by omega) (growsC ho hj h2 (by omega) (setJ_in (n := 6) (len17 ho) (by decide) (by omega) ?_))
      rw [show (0 : Int32) = nI 0 from rfl]
      refine weigh80 (w := fun i => if i = k + 1 then wtS S Wh J k k * upI S J k else wtS S Wh J k i) ho hj (by omega) (fun M' g1 g2 g3 => ih M' ⟨rl_tr g1 (rl_sb _ h1), g2, fun j hj => ?_, fun i hi => ?_⟩) h2 (fun i hi => ?_)
      · by_cases e : j = k
        · subst e; omega
        · exact hp j (by omega)
      · rw [g3 i hi]
        congr 1
        show (if i < k + 1 then (if i = k + 1 then wtS S Wh J k k * upI S J k else wtS S Wh J k i) * dnI S Wh J (k + 1) else (if i = k + 1 then wtS S Wh J k k * upI S J k else wtS S Wh J k i)) = _
        by_cases e : i < k + 1
        · rw [if_pos e, if_neg (by omega)]
          exact (wtI_le (by omega)).symm
        · rw [if_neg e]
          by_cases e2 : i = k + 1
          · subst e2
            rw [if_pos rfl]
            exact (wtI_top _ _ _).symm
          · rw [if_neg e2]
            exact (wtI_out (by omega)).trans (wtI_out (by omega)).symm
      · rw [gb_sb, if_pos rfl]
        show _ = jZ (if i = k + 1 then wtS S Wh J k k * upI S J k else wtS S Wh J k i)
        by_cases e : i = k + 1
        · subst e
          rw [pk_uLs, if_pos rfl, h3 k (by omega), jZ_mul]
        · rw [pk_uLn e, if_neg e, h3 i hi]
theorem weighB {Q : Mm → Prop} (ho : o < 2) (hj : Jok S Wh J) (hr : RJn o S Wh J M) (q : ∀ M', runB o S Wh J M' M → Q M') : wX1_weigh o Q M := by
  unfold wX1_weigh
  rw [show (0 : Int32) = nI 0 from rfl]
  refine up_loop (fun k m => lX1_weigh_2 o Q (nI k) m) (fun k m => RLn o m M ∧ RJn o S Wh J m ∧ ∀ i, i < k → gb m (17 + 4 * o) i = jZ 0) 6 ?_ ?_ 0 _ (Nat.zero_le _) ⟨rl_rf o M, hr, fun i hi => absurd hi (Nat.not_lt_zero _)⟩
  · rintro m ⟨h1, h2, h3⟩
    refine lX1_weigh_2_mk _ _ _ _ (br_t (nI_le (a := 6) (Nat.le_refl _) (by omega)) ?_)
    rw [show (0 : Int32) = nI 0 from rfl]
    refine setJ_in (n := 6) (len17 ho) (by decide) (by omega) ?_
    rw [show (1 : Int32) = nI 1 from rfl]
    refine weighB34 ho hj (fun M' g => q M' ⟨rl_tr g.1 (rl_sb _ h1), g.2⟩) h2 (fun i hi => ?_)
    rw [gb_sb, if_pos rfl]
    by_cases e : i = 0
    · subst e; rw [pk_uLs]; rfl
    · rw [pk_uLn e, h3 i hi]
      congr 1
      exact (if_neg e).symm
  · rintro k m hk ⟨h1, h2, h3⟩ ih
    refine lX1_weigh_2_mk _ _ _ _ (br_f (nI_ge (b := 6) hk (by omega)) (setJ_in (n := 6) (len17 ho) (by decide) (by omega) ?_))
    rw [nI_1]
    refine ih _ ⟨rl_sb _ h1, h2, fun i hi => ?_⟩
    rw [gb_sb, if_pos rfl]
    by_cases e : i = k
    · subst e; rw [pk_uLs]; rfl
    · rw [pk_uLn e, h3 i (by omega)]
end RUN3
/-- the weights where k of twelve join, and lengths up to 4 -/
def wB (S k T : Nat) : Nat → Int := wtI (upI S (JB k T)) (dnI S 144 (JB k T)) 4
def LB (S k T : Nat) (w : Nat → Int) : Prop := (∃ D, 0 < D ∧ ∀ i, wB S k T i = D * w i) ∧ (∀ i, 0 ≤ w i ∧ w i ≤ 8916100448256) ∧ 0 < w 0 ∧ w 6 = 0 ∧ w 5 = 0
theorem LB_m {S k T m : Nat} (hS : 1 ≤ S ∧ S ≤ 11) (hk : k ≤ 12) (hT : T ≤ 11) (hm : m ≤ 4) (h : upI S (JB k T) m = 0) : LB S k T (wtS S 144 (JB k T) m) := by
  have hJ := JB_ok hS hk hT
  have he : ∀ j, 0 < j → 0 < dnI S 144 (JB k T) j := fun j hj => (dnI_rg hJ j).2.2 hj
  refine ⟨⟨upE (dnI S 144 (JB k T)) m (4 - m), upE_pos he _, fun i => ?_⟩, fun i => ⟨?_, ?_⟩, wtI_0 he m, wtI_out (by omega), wtI_out (by omega)⟩
  · have := wt_stop (e := dnI S 144 (JB k T)) h (4 - m) i
    rw [show m + (4 - m) = 4 by omega] at this
    exact this
  · exact wtI_nn (fun k => (upI_rg hJ k).1) (fun k => (dnI_rg hJ k).1) m i
  · have hbd := wtI_bd (u := upI S (JB k T)) (e := dnI S 144 (JB k T)) (B := 1728) (by decide) (fun k => (upI_rg hJ k).1) (fun k => (dnI_rg hJ k).1) (fun k => by have := (upI_rg hJ k).2; omega) (fun k => by have := (dnI_rg hJ k).2.1; omega) m i
    have hp : (1728 : Int) ^ m ≤ 8916100448256 := by
      rcases (show m = 0 ∨ m = 1 ∨ m = 2 ∨ m = 3 ∨ m = 4 by omega) with rfl | rfl | rfl | rfl | rfl <;> decide
    exact Int.le_trans hbd hp
theorem LB_4 {S k T : Nat} (hS : 1 ≤ S ∧ S ≤ 11) (hk : k ≤ 12) (hT : T ≤ 11) : LB S k T (wB S k T) := LB_m hS hk hT (Nat.le_refl _) (JB_4 S k T)
theorem LB_tot {S k T : Nat} {w : Nat → Int} (h : LB S k T w) : 0 < totI w ∧ totI w ≤ 44580502241280 := by
  rw [tot_eq]
  have h0 := h.2.1 0
  have h1 := h.2.1 1
  have h2 := h.2.1 2
  have h3 := h.2.1 3
  have h4 := h.2.1 4
  have h5 := h.2.2.2.2
  have := h.2.2.1
  omega
/-- both runs for a place of one sort -/
theorem comeBC {M : Mm} {S k T : Nat} {Q : Mm → Prop} (hS : 1 ≤ S ∧ S ≤ 11) (hk : k ≤ 12) (hT : T ≤ 11) (h12 : gi M 12 = nI S) (h13 : ga M 13 0 = nI T) (q : ∀ M' w, FR M' M → LB S k T w → gi M' (18 + 2 * 0) = nI S → gj M' 0 = jZ (totI w) → (∀ i, i < 6 → gb M' 17 i = jZ (w i)) → Q M') : wX1_comeBlind 0 (nI k) Q M := by
  unfold wX1_comeBlind
  have hJ := JB_ok hS hk hT
  refine nm_e (nm_e ?_)
  rw [show (0 : Int32) = nI 0 from rfl]
  have f0 : FR (si (si M (18 + 2 * 0) (gi M 12)) (19 + 2 * 0) 144) M := ⟨fun k hk => by rw [gi_si, if_neg (by omega), gi_si, if_neg (by omega)], fun _ _ _ => rfl⟩
  refine up_loop (fun n m => lX1_comeBlind_17 0 (nI k) Q (nI n) m) (fun n m => FR m M ∧ gi m (18 + 2 * 0) = nI S ∧ gi m (19 + 2 * 0) = nI 144 ∧ ∀ i, i < n → ga m (16 + 4 * 0) i = nI (JB k T i)) 6 ?_ ?_ 0 _ (Nat.zero_le _) ⟨f0, ?_, ?_, fun i hi => absurd hi (Nat.not_lt_zero _)⟩
  · rintro m ⟨h1, h2, h3, h4⟩
    refine lX1_comeBlind_17_mk _ _ _ _ _ (br_t (by decide) (weighB (S := S) (Wh := 144) (J := JB k T) (by decide) hJ ⟨h2, h3, h4⟩ (fun M' g => ?_)))
    obtain ⟨g1, g2, m', hm, hm2, hm3, ht, hw⟩ := g
    have hm4 : m' ≤ 4 := by
      rcases Nat.lt_or_ge 4 m' with z | z
      · have := hm3 4 z
        rw [JB_4] at this; omega
      · exact z
    have hf : FR M' m := ⟨fun k hk => g1.1 k (by omega) (by omega), fun k hk _ => g1.2.1 k (by omega)⟩
    exact q M' _ (fr_tr hf h1) (LB_m hS hk hT hm4 (by omega)) g2.1 ht hw
  · rintro n m hn ⟨h1, h2, h3, h4⟩ ih
    have step : ∀ v, v = nI (JB k T n) → lX1_comeBlind_17 0 (nI k) Q (nI (n + 1)) (sa m (16 + 4 * 0) (upd (ga m (16 + 4 * 0)) n v)) := by
      rintro v rfl
      refine ih _ ⟨⟨h1.1, fun j p q => by rw [ga_sa, if_neg (by omega)]; exact h1.2 j p q⟩, h2, h3, fun i hi => ?_⟩
      rw [ga_sa, if_pos rfl]
      by_cases e : i = n
      · subst e; rw [pk_us]
      · rw [pk_un e]; exact h4 i (by omega)
    refine lX1_comeBlind_17_mk _ _ _ _ _ (br_f (nI_ge (b := 6) hn (by omega)) (br_c (fun g => ?_) (fun g => ?_)))
    · have g : 4 ≤ n := by rw [show (4 : Int32) = nI 4 from rfl, nI_leI (by omega) (by omega)] at g; exact g
      refine set_in (n := 6) rfl (by decide) hn ?_
      rw [nI_1]
      exact step _ (by unfold JB; rw [if_neg (by omega)]; rfl)
    · have g : n < 4 := by rw [show (4 : Int32) = nI 4 from rfl, nI_leI (by omega) (by omega)] at g; omega
      rw [show (0 : Int32) = nI 0 from rfl]
      refine at_in (n := 3) rfl (by decide) (by decide) (set_in (n := 6) rfl (by decide) hn ?_)
      rw [nI_1, h1.2 13 (by decide) (by decide), h13, pk_mul]
      exact step _ (by unfold JB; rw [if_pos g])
  · rw [gi_si, if_neg (by decide), gi_si, if_pos rfl]; exact h12
  · rw [gi_si, if_pos rfl]; rfl
theorem layBM {M : Mm} {S k T : Nat} {Q : Mm → Prop} (hS : 1 ≤ S ∧ S ≤ 11) (hk : k ≤ 12) (hT : T ≤ 11) (h29 : gi M 29 = nI S) (h36 : ga M 36 0 = nI T) (q : ∀ M', FR M' M → (∀ i, i < 8 → gb M' 44 i = jZ (wB S k T i)) → Q M') : wX7_layBlind (nI k) Q M := by
  unfold wX7_layBlind
  have ey : (ga M 36 (0 : Int32).toNatClampNeg).toInt64 * (nI k).toInt64 = jZ ((k * T : Nat) : Int) := by
    rw [show (0 : Int32).toNatClampNeg = 0 from rfl, h36, nI_l (by omega), nI_l (by omega), jZ_N, jZ_N, jZ_mul, Int.natCast_mul, Int.mul_comm]
  rw [ey, show (0 : Int32) = nI 0 from rfl]
  refine up_loop (fun n m => lX7_layBlind_14 (jZ ((k * T : Nat) : Int)) Q (nI n) m) (fun n m => gi m = gi M ∧ ga m = ga M ∧ ∀ i, i < n → gb m 42 i = jZ (upI S (JB k T) i) ∧ gb m 43 i = jZ (dnI S 144 (JB k T) i)) 5 ?_ ?_ 0 _ (Nat.zero_le _) ⟨rfl, rfl, fun i hi => absurd hi (Nat.not_lt_zero _)⟩
  · rintro m ⟨h1, h2, h3⟩
    refine lX7_layBlind_14_mk _ _ _ _ (br_t (by decide) ?_)
    rw [show (4 : Int32) = nI 4 from rfl]
    refine layWM (u := upI S (JB k T)) (e := dnI S 144 (JB k T)) (by decide) (fun k hk => (h3 k (by omega)).1) (fun k hk => (h3 (k + 1) (by omega)).2) (fun M' g1 g2 g3 g4 g5 => q M' ?_ g2)
    exact fr_RG g1 ⟨fun k _ => congrFun h1 k, fun k _ _ => congrFun h2 k⟩
  · rintro n m hn ⟨h1, h2, h3⟩ ih
    have hv : vp_in (nI n) 8 := vp_in_nI (by omega) (by decide)
    have hc : (nI n).toNatClampNeg = n := nI_clamp (by omega)
    have e29 : ∀ f, (gi (sb m 42 f) 29).toInt64 = jZ S := fun f => by
      show (gi m 29).toInt64 = _
      rw [h1, h29, nI_l (by omega), jZ_N]
    have e29' : (gi m 29).toInt64 = jZ S := by rw [h1, h29, nI_l (by omega), jZ_N]
    have step : ∀ u v, u = jZ (upI S (JB k T) n) → v = jZ (dnI S 144 (JB k T) n) → lX7_layBlind_14 (jZ ((k * T : Nat) : Int)) Q (nI n + 1) (sb (sb m 42 (vp_updL (gb m 42) n u)) 43 (vp_updL (gb (sb m 42 (vp_updL (gb m 42) n u)) 43) n v)) := by
      rintro u v rfl rfl
      rw [nI_1]
      refine ih _ ⟨h1, h2, fun i hi => ?_⟩
      by_cases e : i = n
      · subst e
        refine ⟨?_, ?_⟩
        · rw [gb_sb, if_neg (by decide), gb_sb, if_pos rfl, pk_uLs]
        · rw [gb_sb, if_pos rfl, pk_uLs]
      · rw [gb_sb, if_neg (by decide), gb_sb, if_pos rfl, pk_uLn e, gb_sb, if_pos rfl, pk_uLn e]
        exact h3 i (by omega)
    have hdn : 0 < n → dnI S 144 (JB k T) n = S * (144 - ((k * T : Nat) : Int)) := fun z => by
      unfold dnI JB
      rw [if_neg (by omega), if_pos (by omega)]; rfl
    refine lX7_layBlind_14_mk _ _ _ _ (br_f (nI_nlt (a := 4) (by omega) (by omega)) ?_)
    rw [hc]
    rcases (show n = 4 ∨ n = 0 ∨ (0 < n ∧ n < 4) by omega) with z | z | z
    · subst z
      refine br_t rfl ⟨hv, nm_e (br_f (by decide) ⟨hv, nm_e ?_⟩)⟩
      rw [e29]
      refine step _ _ (by rw [JB_4]; rfl) ?_
      rw [hdn (by decide), show (144 : Int64) = jZ 144 from rfl, jZ_sub, jZ_mul]
    · subst z
      refine br_f (by decide) (br_t rfl ⟨hv, nm_e (br_t rfl ⟨hv, nm_e ?_⟩)⟩)
      exact step _ _ (by rw [show (12 : Int64) = jZ 12 from rfl, jZ_mul]; rfl) rfl
    · have hz : ¬ nI n = 0 := nI_ne0 z.1 (by omega)
      have h4 : ¬ nI n = (4 : Int32) := by rw [show (4 : Int32) = nI 4 from rfl, nI_eq (by omega) (by omega)]; omega
      refine br_f h4 (br_f hz ⟨hv, nm_e (br_f hz ⟨hv, nm_e ?_⟩)⟩)
      rw [e29, e29']
      refine step _ _ ?_ ?_
      · rw [show (12 : Int64) = jZ 12 from rfl, jZ_sub, jZ_mul]
        unfold upI JB
        rw [if_neg (by omega), if_pos z.2]
      · rw [hdn z.1, show (144 : Int64) = jZ 144 from rfl, jZ_sub, jZ_mul]
theorem one_sort {d : PD} (hd : PDok d) (h : pn d = 1) : pT d 0 ≤ 11 ∧ pW d 0 ≤ 999 := by
  have h1 := sumTo_at (pT d) (show 0 < pn d by omega)
  exact ⟨Nat.le_trans h1 hd.2.2.2.2.2.2.1, hd.2.2.2.2.2.2.2 0 (by omega)⟩
theorem ok_blind {M : Mm} (k n w : Int32) (h : Rel M) : okJ (wX6_blind k n w) (wX7_blind k n w) M := by
  unfold okJ wX6_blind wX7_blind
  refine isWithin_br 0 12 rfl rfl (fun c => within_n 0 12 rfl rfl c ⟨rfl, h⟩) (fun c => ?_)
  refine isWithin_br 0 4 rfl rfl (fun c2 => within_t 0 12 rfl rfl c (within_n 0 4 rfl rfl c2 ⟨rfl, h⟩)) (fun c2 => ?_)
  refine isWithin_br 0 1 rfl rfl (fun e => within_t 0 12 rfl rfl c (within_t 0 4 rfl rfl c2 (isWhich_n e (br_t rfl ⟨rfl, h⟩)))) (fun e => ?_)
  obtain ⟨hO, hS, n', c', hn, h14, h31, hQ, hP⟩ := id h
  rcases told_cases hP with ⟨h0, h1, h2⟩ | ⟨h1, h2, d, hd, hdn, hp, hba, hb, hg⟩
  · subst h0
    exact br_f (by rw [h14]; decide) (within_t 0 12 rfl rfl c (within_t 0 4 rfl rfl c2 (isWhich_t e (br_f one_ne (br_t h2 ⟨rfl, h⟩)))))
  subst hdn
  by_cases h1s : pn d = 1
  · have hT := one_sort hd h1s
    have hSd : 1 ≤ pS d ∧ pS d ≤ 11 := ⟨hd.1, hd.2.1⟩
    obtain ⟨p11, p28, p12, p29, p13, p30, pr⟩ := id hp
    have pr0 := pr 0 (by omega)
    obtain ⟨jk, hjk, rfl⟩ := inI_nI c (n := 12) rfl
    obtain ⟨jn, hjn, rfl⟩ := inI_nI c2 (n := 4) rfl
    refine br_t (by rw [h14, h1s]; rfl) (comeBC hSd hjk hT.1 p12 pr0.1 (fun M1 ww f1 hl _ ht hw => ?_))
    have hlt := LB_tot hl
    have hl4 := LB_4 hSd hjk hT.1
    have hlt4 := LB_tot hl4
    have hwj := hl.2.1 jn
    have hWj := hl4.2.1 jn
    refine atJ_in (n := 6) rfl (by decide) (by omega) ?_
    rw [hw jn (by omega), ht]
    refine shareC ⟨by omega, by omega, hlt.1, by omega⟩ (within_t 0 12 rfl rfl c (within_t 0 4 rfl rfl c2 (isWhich_t e (br_f one_ne (br_f (by rw [f1.1 28 (by decide), h2]; decide) (br_t (by rw [f1.1 31 (by decide), h31, h1s]; rfl) ?_))))))
    refine layBM hSd hjk hT.1 (by rw [f1.1 29 (by decide)]; exact p29) (by rw [f1.2 36 (by decide) (by decide)]; exact pr0.2.1) (fun M2 f2 hW => ⟨vp_in_nI (by omega) (by decide), allWM hW ?_⟩)
    rw [nI_clamp (by omega), hW jn (by omega)]
    refine shareM ⟨by omega, by omega, hlt4.1, by omega⟩ (toldM ⟨?_, Rel_fr (fr_sj 5 _ (fr_sj 4 _ (fr_tr f2 f1))) h⟩)
    obtain ⟨⟨D, hD, hDw⟩, -⟩ := hl
    have hr := rdU_LK (d := d) (b := fun _ => 0) (w := ww) hD (hDw jn) (totI_sc hDw)
    rw [hr.1, hr.2]
  · refine br_f (by rw [h14, show (1 : Int32) = nI 1 from rfl, nI_eq (by omega) (by omega)]; exact h1s) ?_
    exact within_t 0 12 rfl rfl c (within_t 0 4 rfl rfl c2 (isWhich_t e (br_f one_ne (br_f (by rw [h2]; decide) (br_f (by rw [h31, show (1 : Int32) = nI 1 from rfl, nI_eq (by omega) (by omega)]; exact h1s) ⟨rfl, h⟩)))))
