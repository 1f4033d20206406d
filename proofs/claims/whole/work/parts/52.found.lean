theorem foundC {M : Mm} {o S n : Nat} {w : Nat → Int} {Q : Int64 → Mm → Prop} (ho : o < 2) (hS : S ≤ 11) (hn : n < 6) (h18 : gi M (18 + 2 * o) = nI S) (hw : ∀ i, i < 6 → gb M (17 + 4 * o) i = jZ (w i)) (h6 : w 6 = 0) (q : Q (jZ (foundI S w n)) M) : wX1_found o (nI n) Q M := by
  have e12 : ((12 : Int32)).toInt64 = jZ 12 := rfl
  have eS : (gi M (18 + 2 * o)).toInt64 = jZ S := by rw [h18, nI_l (by omega), jZ_N]
  have e12S : ((12 : Int32) - gi M (18 + 2 * o)).toInt64 = jZ (12 - (S : Int)) := by
    rw [h18, show (12 : Int32) = nI 12 from rfl, pk_sub (by omega), nI_l (by omega), jZ_N]; congr 1; omega
  -- what stands at the next length
  have nx : ∀ {Q' : Int64 → Mm → Prop}, Q' (jZ (w (n + 1))) M → wX6_at_ (17 + 4 * o) (nI n + 1) Q' M := fun {Q'} hq => by
    rw [nI_1]
    by_cases g : n + 1 < 6
    · refine atJ_in (n := 6) (len17 ho) (by decide) g ?_
      rw [hw (n + 1) g]; exact hq
    · have e : n + 1 = 6 := by omega
      refine atJ_out (n := 6) (len17 ho) (by omega) (by omega) ?_
      rw [e, h6] at hq; exact hq
  unfold wX1_found
  refine br_c (fun z => ?_) (fun z => ?_)
  · have z' : n = 0 := by rw [show (0 : Int32) = nI 0 from rfl, nI_eq (by omega) (by decide)] at z; exact z
    refine atJ_in (n := 6) (len17 ho) (by decide) hn (nx ?_)
    rw [hw n hn, e12, eS, jZ_mul, jZ_mul, jZ_add]
    unfold foundI at q
    rw [if_pos z'] at q; exact q
  · have z' : ¬ n = 0 := by rw [show (0 : Int32) = nI 0 from rfl, nI_eq (by omega) (by decide)] at z; exact z
    refine atJ_in (n := 6) (len17 ho) (by decide) hn (nx ?_)
    rw [hw n hn, e12S, eS, jZ_mul, jZ_mul, jZ_add]
    unfold foundI at q
    rw [if_neg z'] at q; exact q
theorem foundBC {M : Mm} {o S b : Nat} {w : Nat → Int} {Q : Int64 → Mm → Prop} (ho : o < 2) (hS : S ≤ 11) (hb : b ≤ 5) (h18 : gi M (18 + 2 * o) = nI S) (hw : ∀ i, i < 6 → gb M (17 + 4 * o) i = jZ (w i)) (h6 : w 6 = 0) (q : Q (jZ (sumI (foundI S w) b)) M) : wX1_foundBelow o (nI b) Q M := by
  unfold wX1_foundBelow
  rw [show (0 : Int32) = nI 0 from rfl]
  refine up_loop (fun j (_ : Unit) => lX1_foundBelow_5 o (nI b) Q (jZ (sumI (foundI S w) j)) (nI j) M) (fun _ _ => True) b ?_ ?_ 0 () (Nat.zero_le _) trivial
  · rintro _ -
    exact lX1_foundBelow_5_mk _ _ _ _ _ _ (br_t (nI_le (Nat.le_refl _) (by omega)) q)
  · rintro j _ hj - ih
    refine lX1_foundBelow_5_mk _ _ _ _ _ _ (br_f (nI_ge hj (by omega)) (br_f (nI_ge (b := 6) (by omega) (by omega)) (foundC ho hS (by omega) h18 hw h6 ?_)))
    rw [jZ_add, nI_1]
    exact ih () trivial
theorem metM {M : Mm} {S n : Nat} {w : Nat → Int} {Q : Int64 → Mm → Prop} (hS : S ≤ 11) (hn : n < 6) (h29 : gi M 29 = nI S) (hw : ∀ i, i < 8 → gb M 44 i = jZ (w i)) (q : Q (jZ (foundI S w n)) M) : wX7_metAt (nI n) Q M := by
  have e12 : ((12 : Int32)).toInt64 = jZ 12 := rfl
  have eS : (gi M 29).toInt64 = jZ S := by rw [h29, nI_l (by omega), jZ_N]
  have e12S : ((12 : Int32) - gi M 29).toInt64 = jZ (12 - (S : Int)) := by
    rw [h29, show (12 : Int32) = nI 12 from rfl, pk_sub (by omega), nI_l (by omega), jZ_N]; congr 1; omega
  have hc : (nI n).toNatClampNeg = n := nI_clamp (by omega)
  have hc1 : (nI (n + 1)).toNatClampNeg = n + 1 := nI_clamp (by omega)
  unfold wX7_metAt
  rw [nI_1, hc, hc1, hw n (by omega), hw (n + 1) (by omega), e12, eS, e12S, jZ_mul, jZ_mul, jZ_mul, jZ_add, jZ_add]
  refine ⟨vp_in_nI (by omega) (by decide), br_c (fun z => ⟨vp_in_nI (by omega) (by decide), ?_⟩) (fun z => ⟨vp_in_nI (by omega) (by decide), ?_⟩)⟩
  · have z' : n = 0 := by rw [show (0 : Int32) = nI 0 from rfl, nI_eq (by omega) (by decide)] at z; exact z
    unfold foundI at q
    rw [if_pos z'] at q
    rw [Int.mul_comm (w n), Int.mul_comm (w (n + 1))]; exact q
  · have z' : ¬ n = 0 := by rw [show (0 : Int32) = nI 0 from rfl, nI_eq (by omega) (by decide)] at z; exact z
    unfold foundI at q
    rw [if_neg z'] at q
    rw [Int.mul_comm (w n), Int.mul_comm (w (n + 1))]; exact q
