/-! the long run, in the class -/
def RLn (o : Nat) (M1 M : Mm) : Prop := (∀ k, k ≠ 18 + 2 * o → k ≠ 19 + 2 * o → gi M1 k = gi M k) ∧ (∀ k, k ≠ 16 + 4 * o → ga M1 k = ga M k) ∧ (∀ k, k ≠ o → gj M1 k = gj M k) ∧ ∀ k, k ≠ 17 + 4 * o → gb M1 k = gb M k
theorem rl_rf (o : Nat) (M : Mm) : RLn o M M := ⟨fun _ _ _ => rfl, fun _ _ => rfl, fun _ _ => rfl, fun _ _ => rfl⟩
theorem rl_tr {o : Nat} {A B C : Mm} (h : RLn o A B) (g : RLn o B C) : RLn o A C := ⟨fun k p q => (h.1 k p q).trans (g.1 k p q), fun k p => (h.2.1 k p).trans (g.2.1 k p), fun k p => (h.2.2.1 k p).trans (g.2.2.1 k p), fun k p => (h.2.2.2 k p).trans (g.2.2.2 k p)⟩
theorem rl_sb {o : Nat} {M1 M : Mm} (f : Nat → Int64) (h : RLn o M1 M) : RLn o (sb M1 (17 + 4 * o) f) M := ⟨h.1, h.2.1, h.2.2.1, fun k hk => by rw [gb_sb, if_neg hk]; exact h.2.2.2 k hk⟩
theorem rl_sj {o : Nat} {M1 M : Mm} (v : Int64) (h : RLn o M1 M) : RLn o (sj M1 o v) M := ⟨h.1, h.2.1, fun k hk => by rw [gj_sj, if_neg hk]; exact h.2.2.1 k hk, h.2.2.2⟩
theorem rl_sa {o : Nat} {M1 M : Mm} (f : Nat → Int32) (h : RLn o M1 M) : RLn o (sa M1 (16 + 4 * o) f) M := ⟨h.1, fun k hk => by rw [ga_sa, if_neg hk]; exact h.2.1 k hk, h.2.2.1, h.2.2.2⟩
theorem len16 {o : Nat} (h : o < 2) : lenA (16 + 4 * o) = 6 := by
  rcases (show o = 0 ∨ o = 1 by omega) with rfl | rfl <;> rfl
theorem len17 {o : Nat} (h : o < 2) : lenA (17 + 4 * o) = 6 := by
  rcases (show o = 0 ∨ o = 1 by omega) with rfl | rfl <;> rfl
theorem len18 {o : Nat} (h : o < 2) : lenA (18 + 4 * o) = 6 := by
  rcases (show o = 0 ∨ o = 1 by omega) with rfl | rfl <;> rfl
theorem len19 {o : Nat} (h : o < 2) : lenA (19 + 4 * o) = 6 := by
  rcases (show o = 0 ∨ o = 1 by omega) with rfl | rfl <;> rfl
/-- what the lengths are laid from -/
def RJn (o S Wh : Nat) (J : Nat → Nat) (M : Mm) : Prop := gi M (18 + 2 * o) = nI S ∧ gi M (19 + 2 * o) = nI Wh ∧ ∀ n, n < 6 → ga M (16 + 4 * o) n = nI (J n)
def Jok (S Wh : Nat) (J : Nat → Nat) : Prop := 1 ≤ S ∧ S ≤ 11 ∧ Wh ≤ 144 ∧ ∀ n, J n < Wh
theorem upI_rg {S Wh : Nat} {J : Nat → Nat} (h : Jok S Wh J) (k : Nat) : 0 ≤ upI S J k ∧ upI S J k ≤ 12 * (Wh : Int) := by
  obtain ⟨h1, h2, h3, h4⟩ := h
  have hk := h4 k
  unfold upI
  split
  · omega
  · have a : (12 - (S : Int)) * (J k : Int) ≤ 12 * (J k : Int) := Int.mul_le_mul_of_nonneg_right (by omega) (by omega)
    have b : 0 ≤ (12 - (S : Int)) * (J k : Int) := Int.mul_nonneg (by omega) (by omega)
    omega
theorem dnI_rg {S Wh : Nat} {J : Nat → Nat} (h : Jok S Wh J) (k : Nat) : 0 ≤ dnI S Wh J k ∧ dnI S Wh J k ≤ 12 * (Wh : Int) ∧ (0 < k → 0 < dnI S Wh J k) := by
  obtain ⟨h1, h2, h3, h4⟩ := h
  have hk := h4 (k - 1)
  unfold dnI
  split
  · omega
  · have a : (S : Int) * ((Wh : Int) - (J (k - 1) : Int)) ≤ 12 * ((Wh : Int) - (J (k - 1) : Int)) := Int.mul_le_mul_of_nonneg_right (by omega) (by omega)
    have b : 0 < (S : Int) * ((Wh : Int) - (J (k - 1) : Int)) := Int.mul_pos (by omega) (by omega)
    omega
theorem rl_RJ {o S Wh : Nat} {J : Nat → Nat} {M1 M : Mm} (h : RJn o S Wh J M) (h1 : gi M1 (18 + 2 * o) = gi M (18 + 2 * o)) (h2 : gi M1 (19 + 2 * o) = gi M (19 + 2 * o)) (h3 : ga M1 (16 + 4 * o) = ga M (16 + 4 * o)) : RJn o S Wh J M1 := by
  unfold RJn at *
  rw [h1, h2, h3]; exact h
section RUN
variable {o S Wh : Nat} {J : Nat → Nat} {M : Mm}
theorem growsC {n : Nat} {Q : Int64 → Mm → Prop} (ho : o < 2) (hj : Jok S Wh J) (hr : RJn o S Wh J M) (hn : n < 6) (q : Q (jZ (upI S J n)) M) : wX1_grows o (nI n) Q M := by
  obtain ⟨h1, h2, h3, h4⟩ := hj
  have hb := h4 n
  have hm : (12 - S) * J n ≤ 11 * 144 := Nat.mul_le_mul (by omega) (by omega)
  unfold wX1_grows
  refine br_c (fun z => ?_) (fun z => ?_)
  · refine at_in (n := 6) (len16 ho) (by decide) hn ?_
    have z' : n = 0 := by rw [show (0 : Int32) = nI 0 from rfl, nI_eq (by omega) (by decide)] at z; exact z
    rw [hr.2.2 n hn, show (12 : Int32) = nI 12 from rfl, pk_mul, nI_l (by omega), jZ_N]
    have e : upI S J n = ((12 * J n : Nat) : Int) := by unfold upI; rw [if_pos z']; omega
    rw [e] at q; exact q
  · refine at_in (n := 6) (len16 ho) (by decide) hn ?_
    have z' : ¬ n = 0 := by rw [show (0 : Int32) = nI 0 from rfl, nI_eq (by omega) (by decide)] at z; exact z
    rw [hr.2.2 n hn, hr.1, show (12 : Int32) = nI 12 from rfl, pk_sub (by omega), pk_mul, nI_l (by omega), jZ_N]
    have e : upI S J n = (((12 - S) * J n : Nat) : Int) := by unfold upI; rw [if_neg z', Int.natCast_mul]; congr 1; omega
    rw [e] at q; exact q
theorem shrinksC {n : Nat} {Q : Int64 → Mm → Prop} (ho : o < 2) (hj : Jok S Wh J) (hr : RJn o S Wh J M) (hn : n < 7) (q : Q (jZ (dnI S Wh J n)) M) : wX1_shrinks o (nI n) Q M := by
  obtain ⟨h1, h2, h3, h4⟩ := hj
  have hb := h4 (n - 1)
  have hm : S * (Wh - J (n - 1)) ≤ 11 * 144 := Nat.mul_le_mul (by omega) (by omega)
  unfold wX1_shrinks
  refine br_c (fun z => ?_) (fun z => ?_)
  · have z' : n = 0 := by rw [show (0 : Int32) = nI 0 from rfl, nI_eq (by omega) (by decide)] at z; exact z
    have e : dnI S Wh J n = 0 := by unfold dnI; rw [if_pos z']
    rw [e] at q; exact q
  · have z' : ¬ n = 0 := by rw [show (0 : Int32) = nI 0 from rfl, nI_eq (by omega) (by decide)] at z; exact z
    rw [show (1 : Int32) = nI 1 from rfl, pk_sub (by omega)]
    refine at_in (n := 6) (len16 ho) (by decide) (by omega) ?_
    rw [hr.2.2 (n - 1) (by omega), hr.1, hr.2.1, pk_sub (by omega), pk_mul, nI_l (by omega), jZ_N]
    have e : dnI S Wh J n = ((S * (Wh - J (n - 1)) : Nat) : Int) := by unfold dnI; rw [if_neg z', Int.natCast_mul]; congr 1; omega
    rw [e] at q; exact q
/-- the weights of those below are grown by one more factor -/
theorem weigh80 {n : Nat} {w : Nat → Int} {Q : Mm → Prop} {J2 J34 : Int32 → Mm → Prop} (ho : o < 2) (hj : Jok S Wh J) (hn : n < 6) (q : ∀ M', RLn o M' M → RJn o S Wh J M' → (∀ i, i < 6 → gb M' (17 + 4 * o) i = jZ (if i < n then w i * dnI S Wh J n else w i)) → J34 (nI (n + 1)) M') (hr : RJn o S Wh J M) (hw : ∀ i, i < 6 → gb M (17 + 4 * o) i = jZ (w i)) : lX1_weigh_80 o (nI n) Q J2 J34 (nI 0) M := by
  refine up_loop (fun j m => lX1_weigh_80 o (nI n) Q J2 J34 (nI j) m) (fun j m => RLn o m M ∧ RJn o S Wh J m ∧ ∀ i, i < 6 → gb m (17 + 4 * o) i = jZ (if i < j then w i * dnI S Wh J n else w i)) n ?_ ?_ 0 _ (Nat.zero_le _) ⟨rl_rf o M, hr, fun i hi => by rw [if_neg (Nat.not_lt_zero _)]; exact hw i hi⟩
  · rintro m ⟨h1, h2, h3⟩
    refine lX1_weigh_80_mk _ _ _ _ _ _ _ (br_t (nI_le (Nat.le_refl _) (by omega)) ?_)
    rw [nI_1]
    exact q m h1 h2 h3
  · rintro j m hjn ⟨h1, h2, h3⟩ ih
    refine lX1_weigh_80_mk _ _ _ _ _ _ _ (br_f (nI_ge hjn (by omega)) (atJ_in (n := 6) (len17 ho) (by decide) (by omega) (shrinksC ho hj h2 (by omega) (setJ_in (n := 6) (len17 ho) (by decide) (by omega) ?_))))
    rw [nI_1]
    refine ih _ ⟨rl_sb _ h1, h2, fun i hi => ?_⟩
    rw [gb_sb, if_pos rfl]
    by_cases e : i = j
    · subst e
      rw [pk_uLs, h3 i hi, if_neg (Nat.lt_irrefl _), if_pos (Nat.lt_succ_self _), jZ_mul]
    · rw [pk_uLn e, h3 i hi]
      by_cases g : i < j
      · rw [if_pos g, if_pos (by omega)]
      · rw [if_neg g, if_neg (by omega)]
/-- their sum -/
theorem weigh126 {w : Nat → Int} {Q : Mm → Prop} {J2 J34 : Int32 → Mm → Prop} (ho : o < 2) (q : ∀ M', RLn o M' M → RJn o S Wh J M' → gj M' o = jZ (totI w) → (∀ i, i < 6 → gb M' (17 + 4 * o) i = jZ (w i)) → Q M') (hr : RJn o S Wh J M) (h0 : gj M o = jZ 0) (hw : ∀ i, i < 6 → gb M (17 + 4 * o) i = jZ (w i)) : lX1_weigh_126 o Q J2 J34 (nI 0) M := by
  refine up_loop (fun j m => lX1_weigh_126 o Q J2 J34 (nI j) m) (fun j m => RLn o m M ∧ RJn o S Wh J m ∧ gj m o = jZ (sumI w j) ∧ ∀ i, i < 6 → gb m (17 + 4 * o) i = jZ (w i)) 6 ?_ ?_ 0 _ (Nat.zero_le _) ⟨rl_rf o M, hr, h0, hw⟩
  · rintro m ⟨h1, h2, h3, h4⟩
    exact lX1_weigh_126_mk _ _ _ _ _ _ (br_t (nI_le (a := 6) (Nat.le_refl _) (by omega)) (q m h1 h2 h3 h4))
  · rintro j m hjn ⟨h1, h2, h3, h4⟩ ih
    refine lX1_weigh_126_mk _ _ _ _ _ _ (br_f (nI_ge (b := 6) hjn (by omega)) (atJ_in (n := 6) (len17 ho) (by decide) (by omega) (nm_e ?_)))
    rw [nI_1]
    refine ih _ ⟨rl_sj _ h1, h2, ?_, h4⟩
    rw [gj_sj, if_pos rfl, h3, h4 j hjn, jZ_add]
    rfl
end RUN
