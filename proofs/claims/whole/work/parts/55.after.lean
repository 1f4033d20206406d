/-! after some minutes -/
def aftI (u e v : Nat → Int) (n : Nat) : Int := v n * (144 - u n - e n) + (if n = 0 then 0 else v (n - 1) * u (n - 1)) + (if n < 5 then v (n + 1) * e (n + 1) else 0)
def aftN (u e : Nat → Int) (n : Nat) : Nat → Nat → Int
  | 0 => fun i => if i = n then 1 else 0
  | t + 1 => aftI u e (aftN u e n t)
def sum6 (v : Nat → Int) : Int := v 0 + v 1 + v 2 + v 3 + v 4 + v 5
theorem aft_sum {u e v : Nat → Int} (hv : ∀ i, i < 6 → 0 ≤ v i) (hu : 0 ≤ u 5) (he : e 0 = 0) : sum6 (aftI u e v) ≤ 144 * sum6 v := by
  have h5 : 0 ≤ v 5 * u 5 := Int.mul_nonneg (hv 5 (by decide)) hu
  have e0 : aftI u e v 0 = v 0 * (144 - u 0 - e 0) + 0 + v 1 * e 1 := rfl
  have e1 : aftI u e v 1 = v 1 * (144 - u 1 - e 1) + v 0 * u 0 + v 2 * e 2 := rfl
  have e2 : aftI u e v 2 = v 2 * (144 - u 2 - e 2) + v 1 * u 1 + v 3 * e 3 := rfl
  have e3 : aftI u e v 3 = v 3 * (144 - u 3 - e 3) + v 2 * u 2 + v 4 * e 4 := rfl
  have e4 : aftI u e v 4 = v 4 * (144 - u 4 - e 4) + v 3 * u 3 + v 5 * e 5 := rfl
  have e5 : aftI u e v 5 = v 5 * (144 - u 5 - e 5) + v 4 * u 4 + 0 := rfl
  unfold sum6
  rw [e0, e1, e2, e3, e4, e5, he]
  simp only [Int.mul_sub]
  omega
theorem aft_rg {u e : Nat → Int} {n : Nat} (hn : n < 6) (hs : ∀ i, 0 ≤ u i ∧ 0 ≤ e i ∧ u i + e i ≤ 144) (he : e 0 = 0) : ∀ t, (∀ i, i < 6 → 0 ≤ aftN u e n t i) ∧ sum6 (aftN u e n t) ≤ 144 ^ t
  | 0 => by
    refine ⟨fun i _ => ?_, ?_⟩
    · show 0 ≤ (if i = n then (1 : Int) else 0)
      split <;> decide
    · rcases (show n = 0 ∨ n = 1 ∨ n = 2 ∨ n = 3 ∨ n = 4 ∨ n = 5 by omega) with rfl | rfl | rfl | rfl | rfl | rfl <;> (unfold sum6 aftN; decide)
  | t + 1 => by
    obtain ⟨h1, h2⟩ := aft_rg hn hs he t
    have h3 := aft_sum (u := u) (e := e) h1 (hs 5).1 he
    refine ⟨fun i hi => ?_, ?_⟩
    · show 0 ≤ aftI u e (aftN u e n t) i
      unfold aftI
      have a := Int.mul_nonneg (h1 i hi) (show 0 ≤ 144 - u i - e i by have := hs i; omega)
      have b : 0 ≤ (if i = 0 then 0 else aftN u e n t (i - 1) * u (i - 1)) := by
        split
        · decide
        · exact Int.mul_nonneg (h1 _ (by omega)) (hs _).1
      have c : 0 ≤ (if i < 5 then aftN u e n t (i + 1) * e (i + 1) else 0) := by
        split
        · exact Int.mul_nonneg (h1 _ (by omega)) (hs _).2.1
        · decide
      omega
    · rw [Int.pow_succ]
      show sum6 (aftI u e (aftN u e n t)) ≤ _
      omega
theorem aft_d {d : PD} (hd : PDok d) (b : Nat → Nat) (i : Nat) : 0 ≤ upI (pS d) (joinN d b) i ∧ 0 ≤ dnI (pS d) 12 (joinN d b) i ∧ upI (pS d) (joinN d b) i + dnI (pS d) 12 (joinN d b) i ≤ 144 := by
  have hJ := Jok_d hd b
  obtain ⟨s1, s2, s3, s4⟩ := id hJ
  have h1 := upI_rg hJ i
  have h2 := dnI_rg hJ i
  refine ⟨h1.1, h2.1, ?_⟩
  unfold upI dnI
  have j1 := s4 i
  have j2 := s4 (i - 1)
  by_cases z : i = 0
  · rw [if_pos z, if_pos z]; omega
  · rw [if_neg z, if_neg z]
    have a : (12 - (pS d : Int)) * (joinN d b i : Int) ≤ (12 - (pS d : Int)) * 12 := Int.mul_le_mul_of_nonneg_left (by omega) (by omega)
    have c : (pS d : Int) * (((12 : Nat) : Int) - (joinN d b (i - 1) : Int)) ≤ (pS d : Int) * 12 := Int.mul_le_mul_of_nonneg_left (by omega) (by omega)
    omega
theorem pow144t {t : Nat} (h : t ≤ 8) : 0 < (144 : Int) ^ t ∧ (144 : Int) ^ t ≤ 184884258895036416 := by
  rcases (show t = 0 ∨ t = 1 ∨ t = 2 ∨ t = 3 ∨ t = 4 ∨ t = 5 ∨ t = 6 ∨ t = 7 ∨ t = 8 by omega) with rfl | rfl | rfl | rfl | rfl | rfl | rfl | rfl | rfl <;> decide
theorem aft_S {d : PD} (hd : PDok d) (b : Nat → Nat) {n t k : Nat} (hn : n < 6) (ht : t ≤ 8) (hk : k < 6) : rgS (aftN (upI (pS d) (joinN d b)) (dnI (pS d) 12 (joinN d b)) n t k) (144 ^ t) := by
  obtain ⟨h1, h2⟩ := aft_rg hn (aft_d hd b) (show dnI (pS d) 12 (joinN d b) 0 = 0 from rfl) t
  have hp := pow144t ht
  unfold sum6 at h2
  have a0 := h1 0 (by decide)
  have a1 := h1 1 (by decide)
  have a2 := h1 2 (by decide)
  have a3 := h1 3 (by decide)
  have a4 := h1 4 (by decide)
  have a5 := h1 5 (by decide)
  refine ⟨?_, ?_, by omega, by omega⟩
  · have := h1 k hk; omega
  · rcases (show k = 0 ∨ k = 1 ∨ k = 2 ∨ k = 3 ∨ k = 4 ∨ k = 5 by omega) with rfl | rfl | rfl | rfl | rfl | rfl <;> omega
/-- one minute more, in the class -/
theorem goOnC {M : Mm} {S : Nat} {J : Nat → Nat} {v : Nat → Int} {Q : Mm → Prop} (hj : Jok S 12 J) (hr : RJn 0 S 12 J M) (hv : ∀ i, i < 6 → gb M 18 i = jZ (v i)) (q : ∀ M', gi M' = gi M → ga M' = ga M → (∀ i, i < 6 → gb M' 18 i = jZ (aftI (upI S J) (dnI S 12 J) v i)) → Q M') : wX1_goOn 0 Q M := by
  unfold wX1_goOn
  rw [show (0 : Int32) = nI 0 from rfl]
  refine up_loop (fun n m => lX1_goOn_2 0 Q (nI n) m) (fun n m => gi m = gi M ∧ ga m = ga M ∧ gb m 18 = gb M 18 ∧ ∀ i, i < n → gb m 19 i = jZ (aftI (upI S J) (dnI S 12 J) v i)) 6 ?_ ?_ 0 _ (Nat.zero_le _) ⟨rfl, rfl, rfl, fun i hi => absurd hi (Nat.not_lt_zero _)⟩
  · rintro m ⟨h1, h2, h3, h4⟩
    refine lX1_goOn_2_mk _ _ _ _ (br_t (by decide) ?_)
    rw [show (0 : Int32) = nI 0 from rfl]
    refine up_loop (fun n m' => lX1_goOn_105 0 Q (lX1_goOn_2 0 Q) (nI n) m') (fun n m' => gi m' = gi M ∧ ga m' = ga M ∧ gb m' 19 = gb m 19 ∧ ∀ i, i < n → gb m' 18 i = jZ (aftI (upI S J) (dnI S 12 J) v i)) 6 ?_ ?_ 0 _ (Nat.zero_le _) ⟨h1, h2, rfl, fun i hi => absurd hi (Nat.not_lt_zero _)⟩
    · rintro m' ⟨g1, g2, g3, g4⟩
      exact lX1_goOn_105_mk _ _ _ _ _ (br_t (by decide) (q m' g1 g2 g4))
    · rintro n m' hn ⟨g1, g2, g3, g4⟩ ih
      refine lX1_goOn_105_mk _ _ _ _ _ (br_f (nI_ge (b := 6) hn (by omega)) (atJ_in (n := 6) rfl (by decide) hn (setJ_in (n := 6) rfl (by decide) hn ?_)))
      rw [nI_1]
      refine ih _ ⟨g1, g2, g3, fun i hi => ?_⟩
      rw [gb_sb, if_pos rfl]
      by_cases e : i = n
      · subst e; rw [pk_uLs]; show gb m' 19 i = _; rw [g3]; exact h4 i hn
      · rw [pk_uLn e]; exact g4 i (by omega)
  · rintro n m hn ⟨h1, h2, h3, h4⟩ ih
    have hrm : RJn 0 S 12 J m := rl_RJ hr (by rw [h1]) (by rw [h1]) (by rw [h2])
    have e12 : ((12 : Int32) * gi m (19 + 2 * 0)).toInt64 = jZ 144 := by rw [hrm.2.1]; decide
    have fin : ∀ z, z = aftI (upI S J) (dnI S 12 J) v n → lX1_goOn_2 0 Q (nI (n + 1)) (sb m (19 + 4 * 0) (vp_updL (gb m (19 + 4 * 0)) n (jZ z))) := fun z hz => by
      refine ih _ ⟨h1, h2, h3, fun i hi => ?_⟩
      rw [gb_sb, if_pos rfl]
      by_cases e : i = n
      · subst e; rw [pk_uLs, hz]
      · rw [pk_uLn e]; exact h4 i (by omega)
    have nx : ∀ {Q' : Int64 → Mm → Prop}, (∀ x, (∀ y, x * y = (if n < 5 then v (n + 1) * y else 0)) → Q' (jZ x) m) → wX6_at_ 18 (nI n + 1) Q' m := fun {Q'} hq => by
      rw [nI_1]
      by_cases g : n < 5
      · refine atJ_in (n := 6) rfl (by decide) (by omega) ?_
        rw [h3, hv (n + 1) (by omega)]
        exact hq _ (fun y => by rw [if_pos g])
      · refine atJ_out (n := 6) rfl (by omega) (by omega) ?_
        exact hq 0 (fun y => by rw [if_neg g, Int.zero_mul])
    refine lX1_goOn_2_mk _ _ _ _ (br_f (nI_ge (b := 6) hn (by omega)) (growsC (by decide) hj hrm hn (shrinksC (by decide) hj hrm (by omega) ?_)))
    rw [e12]
    rcases Nat.eq_zero_or_pos n with z | z
    · subst z
      refine br_t (by decide) (atJ_in (n := 6) rfl (by decide) (by decide) (nx (fun x hx => ?_)))
      rw [nI_1]
      refine shrinksC (by decide) hj hrm (by decide) (setJ_in (n := 6) rfl (by decide) (by decide) ?_)
      rw [h3, hv 0 (by decide), show (0 : Int64) = jZ 0 from rfl, jZ_sub, jZ_sub, jZ_mul, jZ_mul, jZ_add, jZ_add, hx]
      exact fin _ rfl
    · refine br_f (nI_nle z (by omega)) ?_
      rw [show nI n - (1 : Int32) = nI (n - 1) from pk_sub z]
      refine atJ_in (n := 6) rfl (by decide) (by omega) (growsC (by decide) hj hrm (by omega) (atJ_in (n := 6) rfl (by decide) (by omega) (nx (fun x hx => ?_))))
      rw [nI_1]
      refine shrinksC (by decide) hj hrm (by omega) (setJ_in (n := 6) rfl (by decide) (by omega) ?_)
      rw [h3, hv n (by omega), hv (n - 1) (by omega), jZ_sub, jZ_sub, jZ_mul, jZ_mul, jZ_mul, jZ_add, jZ_add, hx]
      refine fin _ ?_
      unfold aftI
      rw [if_neg (show ¬ n = 0 by omega)]
theorem afterC {M : Mm} {d : PD} {b : Nat → Nat} {t n k : Nat} {w : Int32} {Q : Int64 → Mm → Prop} (hd : PDok d) (hr : RJn 0 (pS d) 12 (joinN d b) M) (ht : t ≤ 8) (hn : n < 6) (hk : k < 6) (q : ∀ M', gi M' = gi M → ga M' = ga M → Q (if w = 0 then jZ (rdU (aftN (upI (pS d) (joinN d b)) (dnI (pS d) 12 (joinN d b)) n t k) (144 ^ t)) else jZ (rdL (aftN (upI (pS d) (joinN d b)) (dnI (pS d) 12 (joinN d b)) n t k) (144 ^ t))) M') : wX1_afterMinutes 0 (nI t) (nI n) (nI k) w Q M := by
  unfold wX1_afterMinutes
  have hJ := Jok_d hd b
  rw [show (0 : Int32) = nI 0 from rfl]
  refine up_loop (fun i m => lX1_afterMinutes_3 0 (nI t) (nI n) (nI k) w Q (nI i) m) (fun i m => gi m = gi M ∧ ga m = ga M ∧ ∀ l, l < i → gb m 18 l = jZ (if l = n then 1 else 0)) 6 ?_ ?_ 0 _ (Nat.zero_le _) ⟨rfl, rfl, fun i hi => absurd hi (Nat.not_lt_zero _)⟩
  · rintro m ⟨h1, h2, h3⟩
    refine lX1_afterMinutes_3_mk _ _ _ _ _ _ _ _ (br_t (by decide) ?_)
    rw [show (0 : Int32) = nI 0 from rfl, show (1 : Int64) = jZ (144 ^ 0) from rfl]
    refine up_loop (fun i m' => lX1_afterMinutes_42 0 (nI t) (nI k) w Q (lX1_afterMinutes_3 0 (nI t) (nI n) (nI k) w Q) (jZ (144 ^ i)) (nI i) m') (fun i m' => gi m' = gi M ∧ ga m' = ga M ∧ ∀ l, l < 6 → gb m' 18 l = jZ (aftN (upI (pS d) (joinN d b)) (dnI (pS d) 12 (joinN d b)) n i l)) t ?_ ?_ 0 _ (Nat.zero_le _) ⟨h1, h2, h3⟩
    · rintro m' ⟨g1, g2, g3⟩
      refine lX1_afterMinutes_42_mk _ _ _ _ _ _ _ _ _ (br_t (nI_le (Nat.le_refl _) (by omega)) (atJ_in (n := 6) rfl (by decide) hk ?_))
      show wX6_share (gb m' 18 k) _ _ _ _
      rw [g3 k hk]
      exact shareC (aft_S hd b hn ht hk) (q m' g1 g2)
    · rintro i m' hi ⟨g1, g2, g3⟩ ih
      have hrm : RJn 0 (pS d) 12 (joinN d b) m' := rl_RJ hr (by rw [g1]) (by rw [g1]) (by rw [g2])
      refine lX1_afterMinutes_42_mk _ _ _ _ _ _ _ _ _ (br_f (nI_ge hi (by omega)) (goOnC hJ hrm g3 (fun m2 y1 y2 y3 => ?_)))
      have hr2 : RJn 0 (pS d) 12 (joinN d b) m2 := rl_RJ hrm (by rw [y1]) (by rw [y1]) (by rw [y2])
      have e12 : ((12 : Int32) * gi m2 (19 + 2 * 0)).toInt64 = jZ 144 := by rw [hr2.2.1]; decide
      rw [e12, jZ_mul, ← Int.pow_succ, nI_1]
      exact ih _ ⟨y1.trans g1, y2.trans g2, y3⟩
  · rintro i m hi ⟨h1, h2, h3⟩ ih
    refine lX1_afterMinutes_3_mk _ _ _ _ _ _ _ _ (br_f (nI_ge (b := 6) hi (by omega)) ?_)
    rw [nI_eq (by omega) (by omega), nI_1]
    refine br_c (fun g => setJ_in (n := 6) rfl (by decide) hi (ih _ ⟨h1, h2, fun l hl => ?_⟩)) (fun g => setJ_in (n := 6) rfl (by decide) hi (ih _ ⟨h1, h2, fun l hl => ?_⟩))
    · show gb (sb m 18 _) 18 l = _
      rw [gb_sb, if_pos rfl]
      by_cases e : l = i
      · subst e; rw [pk_uLs, if_pos g]; rfl
      · rw [pk_uLn e]; exact h3 l (by omega)
    · show gb (sb m 18 _) 18 l = _
      rw [gb_sb, if_pos rfl]
      by_cases e : l = i
      · subst e; rw [pk_uLs, if_neg g]; rfl
      · rw [pk_uLn e]; exact h3 l (by omega)
theorem afterM {M : Mm} {d : PD} {b : Nat → Nat} {t n k : Nat} {w : Int32} {Q : Int64 → Mm → Prop} (hd : PDok d) (hr : RMn2 d b M) (ht : t ≤ 8) (hn : n < 6) (hk : k < 6) (q : ∀ M', gi M' = gi M → ga M' = ga M → Q (if w = 0 then jZ (rdU (aftN (upI (pS d) (joinN d b)) (dnI (pS d) 12 (joinN d b)) n t k) (144 ^ t)) else jZ (rdL (aftN (upI (pS d) (joinN d b)) (dnI (pS d) 12 (joinN d b)) n t k) (144 ^ t))) M') : lX7_after_58 (nI t) (nI n) (nI k) w Q (nI 0) M := by
  refine up_loop (fun i m => lX7_after_58 (nI t) (nI n) (nI k) w Q (nI i) m) (fun i m => gi m = gi M ∧ ga m = ga M ∧ gb m 42 = gb M 42 ∧ gb m 43 = gb M 43 ∧ ∀ l, l < i → gb m 45 l = jZ (if l = n then 1 else 0)) 8 ?_ ?_ 0 _ (Nat.zero_le _) ⟨rfl, rfl, rfl, rfl, fun i hi => absurd hi (Nat.not_lt_zero _)⟩
  · rintro m ⟨h1, h2, h4, h5, h3⟩
    refine lX7_after_58_mk _ _ _ _ _ _ _ (br_t (by decide) ?_)
    rw [show (0 : Int32) = nI 0 from rfl, show (1 : Int64) = jZ (144 ^ 0) from rfl]
    refine up_loop (fun i m' => lX7_after_95 (nI t) (nI k) w Q (lX7_after_58 (nI t) (nI n) (nI k) w Q) (jZ (144 ^ i)) (nI i) m') (fun i m' => gi m' = gi M ∧ ga m' = ga M ∧ gb m' 42 = gb M 42 ∧ gb m' 43 = gb M 43 ∧ ∀ l, l < 6 → gb m' 45 l = jZ (aftN (upI (pS d) (joinN d b)) (dnI (pS d) 12 (joinN d b)) n i l)) t ?_ ?_ 0 _ (Nat.zero_le _) ⟨h1, h2, h4, h5, fun l hl => h3 l (by omega)⟩
    · rintro m' ⟨g1, g2, g4, g5, g3⟩
      refine lX7_after_95_mk _ _ _ _ _ _ _ _ (br_t (nI_le (Nat.le_refl _) (by omega)) ⟨vp_in_nI (by omega) (by decide), ?_⟩)
      rw [nI_clamp (by omega), g3 k hk]
      exact shareM (aft_S hd b hn ht hk) (toldM (q _ g1 g2))
    · rintro i m' hi ⟨g1, g2, g4, g5, g3⟩ ih
      refine lX7_after_95_mk _ _ _ _ _ _ _ _ (br_f (nI_ge hi (by omega)) ?_)
      rw [show (0 : Int32) = nI 0 from rfl]
      refine up_loop (fun j m2 => lX7_after_104 (nI t) (nI k) w (jZ (144 ^ i)) (nI i) Q (lX7_after_58 (nI t) (nI n) (nI k) w Q) (lX7_after_95 (nI t) (nI k) w Q (lX7_after_58 (nI t) (nI n) (nI k) w Q)) (nI j) m2) (fun j m2 => gi m2 = gi M ∧ ga m2 = ga M ∧ gb m2 42 = gb M 42 ∧ gb m2 43 = gb M 43 ∧ gb m2 45 = gb m' 45 ∧ ∀ l, l < j → gb m2 46 l = jZ (aftN (upI (pS d) (joinN d b)) (dnI (pS d) 12 (joinN d b)) n (i + 1) l)) 6 ?_ ?_ 0 _ (Nat.zero_le _) ⟨g1, g2, g4, g5, rfl, fun i hi => absurd hi (Nat.not_lt_zero _)⟩
      · rintro m2 ⟨y1, y2, y4, y5, y6, y3⟩
        refine lX7_after_104_mk _ _ _ _ _ _ _ _ _ _ (br_t (by decide) ?_)
        rw [show (0 : Int32) = nI 0 from rfl]
        refine up_loop (fun j m3 => lX7_after_212 (nI t) (nI k) w (jZ (144 ^ i)) (nI i) Q (lX7_after_58 (nI t) (nI n) (nI k) w Q) (lX7_after_95 (nI t) (nI k) w Q (lX7_after_58 (nI t) (nI n) (nI k) w Q)) (lX7_after_104 (nI t) (nI k) w (jZ (144 ^ i)) (nI i) Q (lX7_after_58 (nI t) (nI n) (nI k) w Q) (lX7_after_95 (nI t) (nI k) w Q (lX7_after_58 (nI t) (nI n) (nI k) w Q))) (nI j) m3) (fun j m3 => gi m3 = gi M ∧ ga m3 = ga M ∧ gb m3 42 = gb M 42 ∧ gb m3 43 = gb M 43 ∧ gb m3 46 = gb m2 46 ∧ ∀ l, l < j → gb m3 45 l = jZ (aftN (upI (pS d) (joinN d b)) (dnI (pS d) 12 (joinN d b)) n (i + 1) l)) 6 ?_ ?_ 0 _ (Nat.zero_le _) ⟨y1, y2, y4, y5, rfl, fun i hi => absurd hi (Nat.not_lt_zero _)⟩
        · rintro m3 ⟨z1, z2, z4, z5, z6, z3⟩
          refine lX7_after_212_mk _ _ _ _ _ _ _ _ _ _ _ (br_t (by decide) ?_)
          rw [show (144 : Int64) = jZ 144 from rfl, jZ_mul, ← Int.pow_succ, nI_1]
          exact ih _ ⟨z1, z2, z4, z5, z3⟩
        · rintro j m3 hj ⟨z1, z2, z4, z5, z6, z3⟩ ih3
          have hv : vp_in (nI j) 8 := vp_in_nI (by omega) (by decide)
          refine lX7_after_212_mk _ _ _ _ _ _ _ _ _ _ _ (br_f (nI_nlt (a := 5) (by omega) (by omega)) ⟨hv, hv, nm_e ?_⟩)
          rw [nI_clamp (by omega), nI_1]
          refine ih3 _ ⟨z1, z2, z4, z5, z6, fun l hl => ?_⟩
          rw [gb_sb, if_pos rfl]
          by_cases e : l = j
          · subst e; rw [pk_uLs, z6]; exact y3 l (by omega)
          · rw [pk_uLn e]; exact z3 l (by omega)
      · rintro j m2 hj ⟨y1, y2, y4, y5, y6, y3⟩ ih2
        have hv : vp_in (nI j) 8 := vp_in_nI (by omega) (by decide)
        have hc : (nI j).toNatClampNeg = j := nI_clamp (by omega)
        have hc1 : (nI (j + 1)).toNatClampNeg = j + 1 := nI_clamp (by omega)
        have hv1 : vp_in (nI (j + 1)) 8 := vp_in_nI (by omega) (by decide)
        have w0 := hr j hj
        have c0 : gb m2 45 j = _ := (congrFun y6 j).trans (g3 j hj)
        have u0 : gb m2 42 j = _ := (congrFun y4 j).trans w0.1
        have d0 : gb m2 43 j = _ := (congrFun y5 j).trans w0.2
        have fin : ∀ z, z = aftN (upI (pS d) (joinN d b)) (dnI (pS d) 12 (joinN d b)) n (i + 1) j → lX7_after_104 (nI t) (nI k) w (jZ (144 ^ i)) (nI i) Q (lX7_after_58 (nI t) (nI n) (nI k) w Q) (lX7_after_95 (nI t) (nI k) w Q (lX7_after_58 (nI t) (nI n) (nI k) w Q)) (nI (j + 1)) (sb m2 46 (vp_updL (gb m2 46) j (jZ z))) := fun z hz => by
          refine ih2 _ ⟨y1, y2, y4, y5, y6, fun l hl => ?_⟩
          rw [gb_sb, if_pos rfl]
          by_cases e : l = j
          · subst e; rw [pk_uLs, hz]
          · rw [pk_uLn e]; exact y3 l (by omega)
        refine lX7_after_104_mk _ _ _ _ _ _ _ _ _ _ (br_f (nI_nlt (a := 5) (by omega) (by omega)) ⟨hv, hv, hv, ?_⟩)
        rw [nI_1, hc, hc1, c0, u0, d0, show (144 : Int64) = jZ 144 from rfl, show (0 : Int64) = jZ 0 from rfl]
        rcases Nat.eq_zero_or_pos j with z | z
        · subst z
          have w1 := hr 1 (by decide)
          have c1 : gb m2 45 (0 + 1) = _ := (congrFun y6 1).trans (g3 1 (by decide))
          have d1 : gb m2 43 (0 + 1) = _ := (congrFun y5 1).trans w1.2
          refine br_t (by decide) (br_f (by decide) ⟨hv1, hv1, hv, nm_e ?_⟩)
          rw [c1, d1, jZ_sub, jZ_sub, jZ_mul, jZ_mul, jZ_add, jZ_add]
          exact fin _ rfl
        · have hz : ¬ j = 0 := by omega
          have ep : nI j - (1 : Int32) = nI (j - 1) := pk_sub z
          have hcp : (nI (j - 1)).toNatClampNeg = j - 1 := nI_clamp (by omega)
          have hvp : vp_in (nI (j - 1)) 8 := vp_in_nI (by omega) (by decide)
          have wp := hr (j - 1) (by omega)
          have cp : gb m2 45 (j - 1) = _ := (congrFun y6 (j - 1)).trans (g3 (j - 1) (by omega))
          have up : gb m2 42 (j - 1) = _ := (congrFun y4 (j - 1)).trans wp.1
          refine br_f (nI_nle z (by omega)) ?_
          rw [ep, hcp, cp, up]
          refine ⟨hvp, hvp, ?_⟩
          by_cases g : j < 5
          · have w1 := hr (j + 1) (by omega)
            have c1 : gb m2 45 (j + 1) = _ := (congrFun y6 (j + 1)).trans (g3 (j + 1) (by omega))
            have d1 : gb m2 43 (j + 1) = _ := (congrFun y5 (j + 1)).trans w1.2
            refine br_f (nI_ge (b := 5) g (by decide)) ⟨hv1, hv1, hv, nm_e ?_⟩
            rw [c1, d1, jZ_sub, jZ_sub, jZ_mul, jZ_mul, jZ_mul, jZ_add, jZ_add]
            refine fin _ ?_
            show _ = aftI _ _ _ j
            unfold aftI
            rw [if_neg hz, if_pos g]
          · refine br_t (nI_le (a := 5) (by omega) (by omega)) ⟨hv, nm_e ?_⟩
            rw [jZ_sub, jZ_sub, jZ_mul, jZ_mul, jZ_add, jZ_add]
            refine fin _ ?_
            show _ = aftI _ _ _ j
            unfold aftI
            rw [if_neg hz, if_neg g]
  · rintro i m hi ⟨h1, h2, h4, h5, h3⟩ ih
    have hv : vp_in (nI i) 8 := vp_in_nI (by omega) (by decide)
    refine lX7_after_58_mk _ _ _ _ _ _ _ (br_f (nI_ge (b := 8) hi (by omega)) ?_)
    rw [nI_eq (by omega) (by omega), nI_1, nI_clamp (by omega)]
    refine br_c (fun g => ⟨hv, nm_e (ih _ ⟨h1, h2, h4, h5, fun l hl => ?_⟩)⟩) (fun g => ⟨hv, nm_e (ih _ ⟨h1, h2, h4, h5, fun l hl => ?_⟩)⟩)
    · show gb (sb m 45 _) 45 l = _
      rw [gb_sb, if_pos rfl]
      by_cases e : l = i
      · subst e; rw [pk_uLs, if_pos g]; rfl
      · rw [pk_uLn e]; exact h3 l (by omega)
    · show gb (sb m 45 _) 45 l = _
      rw [gb_sb, if_pos rfl]
      by_cases e : l = i
      · subst e; rw [pk_uLs, if_neg g]; rfl
      · rw [pk_uLn e]; exact h3 l (by omega)
theorem fr_same {M1 M0 M : Mm} (h1 : gi M1 = gi M0) (h2 : ga M1 = ga M0) (h : FR M0 M) : FR M1 M := ⟨fun k p => (congrFun h1 k).trans (h.1 k p), fun k p q => (congrFun h2 k).trans (h.2 k p q)⟩
theorem ok_after {M : Mm} (t n k w : Int32) (h : Rel M) : okJ (wX6_after t n k w) (wX7_after t n k w) M := by
  unfold okJ wX6_after wX7_after
  refine isWithin_br 0 8 rfl rfl (fun c => within_n 0 8 rfl rfl c ⟨rfl, h⟩) (fun c => ?_)
  refine isWithin_br 0 5 rfl rfl (fun c2 => within_t 0 8 rfl rfl c (within_n 0 5 rfl rfl c2 ⟨rfl, h⟩)) (fun c2 => ?_)
  refine isWithin_br 0 5 rfl rfl (fun c3 => within_t 0 8 rfl rfl c (within_t 0 5 rfl rfl c2 (within_n 0 5 rfl rfl c3 ⟨rfl, h⟩))) (fun c3 => ?_)
  refine isWithin_br 0 1 rfl rfl (fun e => within_t 0 8 rfl rfl c (within_t 0 5 rfl rfl c2 (within_t 0 5 rfl rfl c3 (isWhich_n e (br_t rfl ⟨rfl, h⟩))))) (fun e => ?_)
  obtain ⟨hO, hS, n', c', hn, h14, h31, hQ, hP⟩ := id h
  rcases told_cases hP with ⟨h0, h1, h2⟩ | ⟨h1, h2, d, hd, hdn, hp, ⟨b, hba⟩, hb, hg⟩
  · exact br_t h1 (within_t 0 8 rfl rfl c (within_t 0 5 rfl rfl c2 (within_t 0 5 rfl rfl c3 (isWhich_t e (br_f one_ne (br_t h2 ⟨rfl, h⟩))))))
  refine br_f (by rw [h1]; decide) ?_
  obtain ⟨jt, hjt, rfl⟩ := inI_nI c (n := 8) rfl
  obtain ⟨jn, hjn, rfl⟩ := inI_nI c2 (n := 5) rfl
  obtain ⟨jk, hjk, rfl⟩ := inI_nI c3 (n := 5) rfl
  refine runs (W7 := fun _ _ => True) hd hdn hp h14 hba (fun M' ww hf _ _ hl ht hw hrc => ?_)
  refine afterC hd hrc.2.1 hjt (by omega) (by omega) (fun M1 e1 e2 => ?_)
  have hf1 : FR M1 M := fr_same e1 e2 hf
  refine within_t 0 8 rfl rfl c (within_t 0 5 rfl rfl c2 (within_t 0 5 rfl rfl c3 (isWhich_t e (br_f one_ne (br_f (by rw [hf1.1 28 (by decide), h2]; decide) ?_)))))
  refine runs7 hf1 hd hdn hp h31 hba (fun M2 hf2 _ hW hW2 => ?_)
  exact afterM hd hW2 hjt (by omega) (by omega) (fun M3 y1 y2 => ⟨rfl, Rel_fr (fr_same y1 y2 hf2) h⟩)
