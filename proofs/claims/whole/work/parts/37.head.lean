/-! reading a text: all of it -/
def flP (x : Nat) : RD × Nat × Nat := ((false, x, 0, fun _ => 0, fun _ => 0), 0, 0)
def readP (cd : Nat → Int32) (N : Nat) : RD × Nat × Nat :=
  if isL cd N 0 109 then
    if isN cd N 1 1 11 then
      if isL cd N (dX cd N 1) 59 then
        if isL cd N (dX cd N 1 + 1) 99 then
          if isN cd N (dX cd N 1 + 1 + 1) 1 9 then (sortsP cd N 3 0 (dX cd N (dX cd N 1 + 1 + 1)) 11 (fun _ => 0) (fun _ => 0), vN (dV cd N 1), vN (dV cd N (dX cd N 1 + 1 + 1)))
          else flP (dX cd N 1 + 1 + 1)
        else flP (dX cd N 1 + 1)
      else flP (dX cd N 1)
    else flP 1
  else flP 0
section EQS
variable {cd : Nat → Int32} {N : Nat}
theorem rp_1 (h1 : ¬ isL cd N 0 109) : readP cd N = flP 0 := if_neg h1
theorem rp_2 (h1 : isL cd N 0 109) (h2 : ¬ isN cd N 1 1 11) : readP cd N = flP 1 := (if_pos h1).trans (if_neg h2)
theorem rp_3 (h1 : isL cd N 0 109) (h2 : isN cd N 1 1 11) (h3 : ¬ isL cd N (dX cd N 1) 59) : readP cd N = flP (dX cd N 1) := (if_pos h1).trans ((if_pos h2).trans (if_neg h3))
theorem rp_4 (h1 : isL cd N 0 109) (h2 : isN cd N 1 1 11) (h3 : isL cd N (dX cd N 1) 59) (h4 : ¬ isL cd N (dX cd N 1 + 1) 99) : readP cd N = flP (dX cd N 1 + 1) := (if_pos h1).trans ((if_pos h2).trans ((if_pos h3).trans (if_neg h4)))
theorem rp_5 (h1 : isL cd N 0 109) (h2 : isN cd N 1 1 11) (h3 : isL cd N (dX cd N 1) 59) (h4 : isL cd N (dX cd N 1 + 1) 99) (h5 : ¬ isN cd N (dX cd N 1 + 1 + 1) 1 9) : readP cd N = flP (dX cd N 1 + 1 + 1) := (if_pos h1).trans ((if_pos h2).trans ((if_pos h3).trans ((if_pos h4).trans (if_neg h5))))
theorem rp_6 (h1 : isL cd N 0 109) (h2 : isN cd N 1 1 11) (h3 : isL cd N (dX cd N 1) 59) (h4 : isL cd N (dX cd N 1 + 1) 99) (h5 : isN cd N (dX cd N 1 + 1 + 1) 1 9) : readP cd N = (sortsP cd N 3 0 (dX cd N (dX cd N 1 + 1 + 1)) 11 (fun _ => 0) (fun _ => 0), vN (dV cd N 1), vN (dV cd N (dX cd N 1 + 1 + 1))) := (if_pos h1).trans ((if_pos h2).trans ((if_pos h3).trans ((if_pos h4).trans (if_pos h5))))
end EQS
def pdOf (r : RD × Nat × Nat) : PD := (r.2.1, r.2.2, r.1.2.2.1, r.1.2.2.2.1, r.1.2.2.2.2)
theorem readP_ok {cd : Nat → Int32} {N : Nat} (h : (readP cd N).1.1 = true) : PDok (pdOf (readP cd N)) := by
  have no : ∀ x, ¬ (flP x).1.1 = true := fun x => Bool.false_ne_true
  by_cases h1 : isL cd N 0 109
  · have h1' := h1.1
    by_cases h2 : isN cd N 1 1 11
    · have l2 : dX cd N 1 ≤ N := digs_le (by omega)
      by_cases h3 : isL cd N (dX cd N 1) 59
      · have h3' := h3.1
        by_cases h4 : isL cd N (dX cd N 1 + 1) 99
        · have h4' := h4.1
          by_cases h5 : isN cd N (dX cd N 1 + 1 + 1) 1 9
          · rw [rp_6 h1 h2 h3 h4 h5]
            have a1 := vN_of (n := 11) (by decide) h2.2
            have a2 := vN_of (n := 9) (by decide) h5.2
            have a3 := sortsP_ok (cd := cd) (N := N) 3 0 (dX cd N (dX cd N 1 + 1 + 1)) 11 (fun _ => 0) (fun _ => 0) rfl rfl (fun j hj => absurd hj (Nat.not_lt_zero _)) (digs_le (by omega))
            exact ⟨by show 1 ≤ vN (dV cd N 1); omega, a1.2.2, by show 1 ≤ vN (dV cd N (dX cd N 1 + 1 + 1)); omega, a2.2.2, a3.2.1, fun s hs => (a3.2.2.2 s hs).1, a3.2.2.1, fun s hs => (a3.2.2.2 s hs).2⟩
          · rw [rp_5 h1 h2 h3 h4 h5] at h; exact absurd h (no _)
        · rw [rp_4 h1 h2 h3 h4] at h; exact absurd h (no _)
      · rw [rp_3 h1 h2 h3] at h; exact absurd h (no _)
    · rw [rp_2 h1 h2] at h; exact absurd h (no _)
  · rw [rp_1 h1] at h; exact absurd h (no _)
def PCh (r : RD × Nat × Nat) (Q : Int32 → Mm → Prop) (M : Mm) : Prop := ∀ M', RF M' M → gi M' 5 = nI r.1.2.1 → (r.1.1 = true → gi M' 7 = nI r.2.1 ∧ gi M' 8 = nI r.2.2 ∧ gi M' 9 = nI r.1.2.2.1 ∧ ∀ j, j < r.1.2.2.1 → ga M' 11 j = nI (r.1.2.2.2.1 j) ∧ ga M' 12 j = nI (r.1.2.2.2.2 j)) → Q (if r.1.1 = true then 1 else 0) M'
theorem readC {M : Mm} {k i N : Nat} {cd : Nat → Int32} {Q : Int32 → Mm → Prop} (hb : 60 * k + i + N ≤ 240) (hcd : ∀ j, j < N → ga M 10 (60 * k + i + j) = cd j) (q : PCh (readP cd N) Q M) : wX5_isTaken (nI k) (nI i) (nI N) Q M := by
  unfold wX5_isTaken wX4_indexOf
  rw [ix60]
  refine nm_e (nm_e (nm_e (nm_e (nm_e ?_))))
  have hc : CDc (60 * k + i) N cd (si (si (si (si (si M 3 (nI (60 * k + i))) 4 (nI N)) 5 0) 9 0) 10 11) := ⟨rfl, rfl, hb, hcd⟩
  have hr : RF (si (si (si (si (si M 3 (nI (60 * k + i))) 4 (nI N)) 5 0) 9 0) 10 11) M := rf_si 10 _ (rf_si 9 _ (rf_si 5 _ (rf_si 4 _ (rf_si 3 _ (rf_rf M) rfl) rfl) rfl) rfl) rfl
  have no : ∀ {M'' : Mm} {x : Nat} , readP cd N = flP x → RF M'' M → gi M'' 5 = nI x → Q 0 M'' := fun {M'' x} e h1 h2 => by
    have := q M'' h1 (by rw [e]; exact h2) (fun z => by rw [e] at z; exact absurd z Bool.false_ne_true)
    rw [e] at this
    exact this
  refine takesC (nx := 0) hc rfl (by omega) (fun h1 => br_f one_ne ?_) (fun h1 => br_t rfl (no (rp_1 h1) hr rfl))
  have h1' := h1.1
  refine numC (nx := 0 + 1) 1 11 rfl rfl hc rfl (by omega) (fun h2 => br_f one_ne (nm_e ?_)) (fun h2 x => br_t rfl (no (rp_2 h1 h2) (rf_si 5 _ (rf_si 6 _ (rf_si 5 _ hr rfl) rfl) rfl) rfl))
  have l2 : dX cd N (0 + 1) ≤ N := digs_le (by omega)
  refine takesC (nx := dX cd N 1) hc rfl l2 (fun h3 => br_f one_ne ?_) (fun h3 => br_t rfl (no (rp_3 h1 h2 h3) (rf_si 7 _ (rf_si 5 _ (rf_si 6 _ (rf_si 5 _ hr rfl) rfl) rfl) rfl) rfl))
  have h3' := h3.1
  refine takesC (nx := dX cd N 1 + 1) hc rfl (by omega) (fun h4 => br_f one_ne ?_) (fun h4 => br_t rfl (no (rp_4 h1 h2 h3 h4) (rf_si 5 _ (rf_si 7 _ (rf_si 5 _ (rf_si 6 _ (rf_si 5 _ hr rfl) rfl) rfl) rfl) rfl) rfl))
  have h4' := h4.1
  refine numC (nx := dX cd N 1 + 1 + 1) 1 9 rfl rfl hc rfl (by omega) (fun h5 => br_f one_ne (nm_e ?_)) (fun h5 x => br_t rfl (no (rp_5 h1 h2 h3 h4 h5) (rf_si 5 _ (rf_si 6 _ (rf_si 5 _ (rf_si 5 _ (rf_si 7 _ (rf_si 5 _ (rf_si 6 _ (rf_si 5 _ hr rfl) rfl) rfl) rfl) rfl) rfl) rfl) rfl) rfl))
  have a1 := vN_of (n := 11) (by decide) h2.2
  have a2 := vN_of (n := 9) (by decide) h5.2
  rw [rp_6 h1 h2 h3 h4 h5] at q
  rw [show (0 : Int32) = nI 0 from rfl]
  refine sortsC 3 0 (dX cd N (dX cd N 1 + 1 + 1)) 11 (fun _ => 0) (fun _ => 0) _ rfl (by decide) (digs_le (by omega)) hc rfl ⟨rfl, rfl, fun j hj => absurd hj (Nat.not_lt_zero _)⟩ ?_
  intro M' e1 e2 e3 e4 e5
  refine q M' (rf_tr e1 (rf_si 8 _ (rf_si 5 _ (rf_si 6 _ (rf_si 5 _ (rf_si 5 _ (rf_si 7 _ (rf_si 5 _ (rf_si 6 _ (rf_si 5 _ hr rfl) rfl) rfl) rfl) rfl) rfl) rfl) rfl) rfl)) e4 (fun z => ⟨?_, ?_, e5 z⟩)
  · rw [e2]; exact a1.1
  · rw [e3]; exact a2.1
def PMh (st : Nat) (r : RD × Nat × Nat) (Q : Int32 → Mm → Prop) (M : Mm) : Prop := ∀ M', RF M' M → gi M' 35 = nI (st + r.1.2.1) → (r.1.1 = true → gi M' 37 = nI r.2.1 ∧ gi M' 38 = nI r.2.2 ∧ gi M' 39 = nI r.1.2.2.1 ∧ ∀ j, j < r.1.2.2.1 → ga M' 39 j = nI (r.1.2.2.2.1 j) ∧ ga M' 40 j = nI (r.1.2.2.2.2 j)) → Q (if r.1.1 = true then 1 else 0) M'
theorem readM {M : Mm} {st N : Nat} {cd : Nat → Int32} {Q : Int32 → Mm → Prop} (hc : CDm st N cd M) (h35 : gi M 35 = nI st) (q : PMh st (readP cd N) Q M) : wX7_readsAll Q M := by
  have hb := hc.2.1
  unfold wX7_readsAll
  refine nm_e ?_
  have hc : CDm st N cd (si M 39 0) := hc
  have hr : RF (si M 39 0) M := rf_si 39 _ (rf_rf M) rfl
  have no : ∀ {M'' : Mm} {x : Nat} , readP cd N = flP x → RF M'' M → gi M'' 35 = nI (st + x) → Q 0 M'' := fun {M'' x} e h1 h2 => by
    have := q M'' h1 (by rw [e]; exact h2) (fun z => by rw [e] at z; exact absurd z Bool.false_ne_true)
    rw [e] at this
    exact this
  by_cases h1 : isL cd N 0 109
  rotate_left
  · exact readsM_n (nx := 0) hc h35 (by omega) (by decide) h1 (br_t rfl (no (rp_1 h1) hr h35))
  have h1' := h1.1
  refine readsM_t (nx := 0) hc h35 h1 (br_f one_ne ?_)
  by_cases h2 : isN cd N 1 1 11
  rotate_left
  · exact numM_n (nx := 0 + 1) 1 11 rfl rfl hc rfl (by omega) h2 (nm_e (br_t rfl (no (rp_2 h1 h2) (rf_si 37 _ (rf_si 35 _ hr rfl) rfl) rfl)))
  have a1 := vN_of (n := 11) (by decide) h2.2
  have l2 : dX cd N (0 + 1) ≤ N := digs_le (by omega)
  refine numM_t (nx := 0 + 1) 1 11 rfl rfl hc rfl (by omega) h2 (nm_e (br_f ?_ ?_))
  · show ¬ dV cd N 1 = -9
    rw [a1.1]; exact oNo_ne (by omega)
  by_cases h3 : isL cd N (dX cd N 1) 59
  rotate_left
  · exact readsM_n (nx := dX cd N 1) hc rfl l2 (by decide) h3 (br_t rfl (no (rp_3 h1 h2 h3) (rf_si 37 _ (rf_si 35 _ (rf_si 35 _ hr rfl) rfl) rfl) rfl))
  have h3' := h3.1
  refine readsM_t (nx := dX cd N 1) hc rfl h3 (br_f one_ne ?_)
  by_cases h4 : isL cd N (dX cd N 1 + 1) 99
  rotate_left
  · exact readsM_n (nx := dX cd N 1 + 1) hc rfl (by omega) (by decide) h4 (br_t rfl (no (rp_4 h1 h2 h3 h4) (rf_si 35 _ (rf_si 37 _ (rf_si 35 _ (rf_si 35 _ hr rfl) rfl) rfl) rfl) rfl))
  have h4' := h4.1
  refine readsM_t (nx := dX cd N 1 + 1) hc rfl h4 (br_f one_ne ?_)
  by_cases h5 : isN cd N (dX cd N 1 + 1 + 1) 1 9
  rotate_left
  · exact numM_n (nx := dX cd N 1 + 1 + 1) 1 9 rfl rfl hc rfl (by omega) h5 (nm_e (br_t rfl (no (rp_5 h1 h2 h3 h4 h5) (rf_si 38 _ (rf_si 35 _ (rf_si 35 _ (rf_si 37 _ (rf_si 35 _ (rf_si 35 _ hr rfl) rfl) rfl) rfl) rfl) rfl) rfl)))
  have a2 := vN_of (n := 9) (by decide) h5.2
  refine numM_t (nx := dX cd N 1 + 1 + 1) 1 9 rfl rfl hc rfl (by omega) h5 (nm_e (br_f ?_ ?_))
  · show ¬ dV cd N (dX cd N 1 + 1 + 1) = -9
    rw [a2.1]; exact oNo_ne (by omega)
  rw [rp_6 h1 h2 h3 h4 h5] at q
  refine sortsM 3 0 (dX cd N (dX cd N 1 + 1 + 1)) 11 (fun _ => 0) (fun _ => 0) _ rfl rfl (digs_le (by omega)) hc rfl ⟨rfl, fun j hj => absurd hj (Nat.not_lt_zero _)⟩ ?_
  intro M' e1 e2 e3 e4 e5
  refine q M' (rf_tr e1 (rf_si 38 _ (rf_si 35 _ (rf_si 35 _ (rf_si 35 _ (rf_si 37 _ (rf_si 35 _ (rf_si 35 _ hr rfl) rfl) rfl) rfl) rfl) rfl) rfl)) e4 (fun z => ⟨?_, ?_, e5 z⟩)
  · rw [e2]; exact a1.1
  · rw [e3]; exact a2.1
