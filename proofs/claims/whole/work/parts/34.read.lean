/-! reading a text: the numbers -/
/-- the two agree but for what reading uses -/
def dI (k : Nat) : Bool := (3 ≤ k && k ≤ 10) || (35 ≤ k && k ≤ 39)
def dA (k : Nat) : Bool := k == 11 || k == 12 || k == 39 || k == 40
def RF (M1 M : Mm) : Prop := (∀ k, dI k = false → gi M1 k = gi M k) ∧ ∀ k, dA k = false → ga M1 k = ga M k
theorem rf_rf (M : Mm) : RF M M := ⟨fun _ _ => rfl, fun _ _ => rfl⟩
theorem rf_tr {A B C : Mm} (h : RF A B) (g : RF B C) : RF A C := ⟨fun k q => (h.1 k q).trans (g.1 k q), fun k q => (h.2 k q).trans (g.2 k q)⟩
theorem rf_si {M1 M : Mm} (j : Nat) (v : Int32) (h : RF M1 M) (hj : dI j = true) : RF (si M1 j v) M := ⟨fun k hk => by rw [gi_si, if_neg (fun e => by rw [e, hj] at hk; exact absurd hk (by decide))]; exact h.1 k hk, fun k hk => h.2 k hk⟩
theorem rf_sa {M1 M : Mm} (j : Nat) (f : Nat → Int32) (h : RF M1 M) (hj : dA j = true) : RF (sa M1 j f) M := ⟨fun k hk => h.1 k hk, fun k hk => by rw [ga_sa, if_neg (fun e => by rw [e, hj] at hk; exact absurd hk (by decide))]; exact h.2 k hk⟩
theorem Rel_rf {M1 M : Mm} (e : RF M1 M) (h : Rel M) : Rel M1 := by
  obtain ⟨hO, hS, n, c, hn, h14, h31, hQ, hP⟩ := h
  refine ⟨?_, fun k hk => ?_, n, c, hn, by rw [e.1 14 rfl]; exact h14, by rw [e.1 31 rfl]; exact h31, ?_, ?_⟩
  · unfold RO at *
    rw [e.1 42 rfl, e.1 0 rfl, e.1 27 rfl, e.1 1 rfl, e.1 26 rfl, e.1 2 rfl]
    exact hO
  · have := hS k hk
    unfold RS1 at *
    rw [e.2 8 rfl, e.2 33 rfl, e.2 9 rfl, e.2 34 rfl, e.2 35 rfl, e.2 10 rfl]
    exact this
  · unfold PQ PQ1 PL at *
    rw [e.1 23 rfl, e.1 40 rfl, e.1 41 rfl, e.1 25 rfl, e.1 24 rfl, e.2 50 rfl, e.2 26 rfl, e.2 49 rfl, e.2 27 rfl, e.2 51 rfl, e.2 28 rfl, e.2 52 rfl, e.2 29 rfl, e.2 53 rfl, e.2 30 rfl, e.2 31 rfl]
    exact hQ
  · rcases hP with ⟨h0, h1, h2⟩ | ⟨d, h1, h2, h3, h4, h5, h6⟩
    · exact Or.inl ⟨h0, by rw [e.1 11 rfl]; exact h1, by rw [e.1 28 rfl]; exact h2⟩
    · refine Or.inr ⟨d, h1, h2, ?_, ?_, ?_, ?_⟩
      · unfold PP at *
        rw [e.1 11 rfl, e.1 28 rfl, e.1 12 rfl, e.1 29 rfl, e.1 13 rfl, e.1 30 rfl, e.2 13 rfl, e.2 36 rfl, e.2 14 rfl, e.2 37 rfl]
        exact h3
      · unfold PBa at *
        rw [e.2 15 rfl, e.2 38 rfl]
        exact h4
      · unfold PB at *
        rw [e.1 15 rfl, e.1 32 rfl, e.1 16 rfl, e.1 33 rfl, e.1 17 rfl, e.1 34 rfl]
        exact h5
      · unfold PG at *
        rw [e.1 22 rfl, e.2 25 rfl]
        exact h6
/-- the codes before the two -/
def CDc (st N : Nat) (cd : Nat → Int32) (M : Mm) : Prop := gi M 3 = nI st ∧ gi M 4 = nI N ∧ st + N ≤ 240 ∧ ∀ j, j < N → ga M 10 (st + j) = cd j
def CDm (st N : Nat) (cd : Nat → Int32) (M : Mm) : Prop := gi M 36 = nI (st + N) ∧ st + N ≤ 240 ∧ ∀ j, j < N → ga M 35 (st + j) = cd j
def digs (cd : Nat → Int32) (N : Nat) : Nat → Nat → Int32 → Nat × Int32
  | 0, nx, v => (nx, v)
  | f + 1, nx, v => if nx < N ∧ inI (cd nx) 48 57 then digs cd N f (nx + 1) ((10 : Int32) * v + cd nx - (48 : Int32)) else (nx, v)
theorem digs_t {cd : Nat → Int32} {N f nx : Nat} {v : Int32} (h : nx < N ∧ inI (cd nx) 48 57) : digs cd N (f + 1) nx v = digs cd N f (nx + 1) ((10 : Int32) * v + cd nx - (48 : Int32)) := if_pos h
theorem digs_n {cd : Nat → Int32} {N f nx : Nat} {v : Int32} (h : ¬ (nx < N ∧ inI (cd nx) 48 57)) : digs cd N (f + 1) nx v = (nx, v) := if_neg h
theorem digs_le {cd : Nat → Int32} {N : Nat} : ∀ {f nx v}, nx ≤ N → (digs cd N f nx v).1 ≤ N
  | 0, nx, v, h => h
  | f + 1, nx, v, h => by
    by_cases g : nx < N ∧ inI (cd nx) 48 57
    · rw [digs_t g]; exact digs_le (by omega)
    · rw [digs_n g]; exact h
theorem digs_ge {cd : Nat → Int32} {N : Nat} : ∀ {f nx v}, nx ≤ (digs cd N f nx v).1
  | 0, nx, v => Nat.le_refl _
  | f + 1, nx, v => by
    by_cases g : nx < N ∧ inI (cd nx) 48 57
    · rw [digs_t g]; exact Nat.le_trans (Nat.le_succ _) digs_ge
    · rw [digs_n g]; exact Nat.le_refl _
abbrev dX (cd : Nat → Int32) (N nx : Nat) : Nat := (digs cd N 3 nx 0).1
abbrev dV (cd : Nat → Int32) (N nx : Nat) : Int32 := (digs cd N 3 nx 0).2
/-- whether a letter, a number is there -/
abbrev isL (cd : Nat → Int32) (N nx : Nat) (code : Int32) : Prop := nx < N ∧ cd nx = code
abbrev isN (cd : Nat → Int32) (N nx : Nat) (l h : Int) : Prop := nx < dX cd N nx ∧ inI (dV cd N nx) l h
theorem si_4 (M : Mm) (v x a b : Int32) : si (si (si (si M 6 v) 5 a) 6 x) 5 b = si (si M 6 x) 5 b := by
  unfold si
  refine Prod.ext ?_ rfl
  funext j
  by_cases h : j = 5
  · simp [h]
  · by_cases g : j = 6 <;> simp [h, g]
section CLASS
variable {st N nx : Nat} {cd : Nat → Int32} {M : Mm}
theorem codeC {Q : Int32 → Mm → Prop} (hc : CDc st N cd M) (h5 : gi M 5 = nI nx) (hn : nx < N) (q : Q (cd nx) M) : wX5_codeAtNext Q M := by
  obtain ⟨h3, h4, hb, hcd⟩ := hc
  unfold wX5_codeAtNext
  rw [h3, h5, nI_add]
  refine at_in (n := 240) rfl (by decide) (by omega) ?_
  rw [hcd nx hn]
  exact q
theorem takesC {Q : Int32 → Mm → Prop} {code : Int32} (hc : CDc st N cd M) (h5 : gi M 5 = nI nx) (hn : nx ≤ N) (h1 : isL cd N nx code → Q 1 (si M 5 (nI (nx + 1)))) (h0 : ¬ isL cd N nx code → Q 0 M) : wX5_takes code Q M := by
  have hb := hc.2.2.1
  unfold wX5_takes
  rw [hc.2.1]
  refine br_c (fun g => ?_) (fun g => ?_)
  · rw [h5, nI_leI (by omega) (by omega)] at g
    exact h0 (fun z => by have := z.1; omega)
  · rw [h5, nI_leI (by omega) (by omega)] at g
    refine codeC hc h5 (by omega) (br_c (fun e => nm_e ?_) (fun e => h0 (fun z => e z.2)))
    rw [h5, nI_1]
    exact h1 ⟨by omega, e⟩
/-- what is left to do once the digits are read -/
def tnT (lo hi y : Int32) (Q : Int32 → Mm → Prop) (M : Mm) : Prop := ((gi M 5 ≤ y → ∀ M4, M4 = si M 5 y → Q 0 M4) ∧ (¬ gi M 5 ≤ y → wX6_isWithin (gi M 6) lo hi (fun r M5 => (r = 0 → ∀ M7, M7 = si M5 5 y → Q 0 M7) ∧ (¬ r = 0 → Q 1 M5)) M))
theorem digitsC {Q : Int32 → Mm → Prop} {lo hi y : Int32} : ∀ (f j nx : Nat) (v : Int32), f + j = 3 → nx ≤ N → CDc st N cd M → (tnT lo hi y Q (si (si M 6 (digs cd N f nx v).2) 5 (nI (digs cd N f nx v).1))) → lX5_takesNumber_13 lo hi y Q (nI j) (si (si M 6 v) 5 (nI nx)) := by
  intro f
  induction f with
  | zero =>
    intro j nx v hj hn hc q
    have : j = 3 := by omega
    subst this
    exact lX5_takesNumber_13_mk _ _ _ _ _ _ (br_t (by decide) q)
  | succ f ih =>
    intro j nx v hj hn hc q
    have hb := hc.2.2.1
    have hc' : CDc st N cd (si (si M 6 v) 5 (nI nx)) := hc
    have h5 : gi (si (si M 6 v) 5 (nI nx)) 5 = nI nx := rfl
    refine lX5_takesNumber_13_mk _ _ _ _ _ _ (br_f (nI_ge (b := 3) (by omega) (by decide)) ?_)
    unfold wX5_isDigitNext
    rw [hc'.2.1, h5]
    refine br_c (fun g => ?_) (fun g => ?_)
    · rw [nI_leI (by omega) (by omega)] at g
      rw [digs_n (fun z => by have := z.1; omega)] at q
      exact br_t rfl q
    · rw [nI_leI (by omega) (by omega)] at g
      refine codeC hc' h5 (by omega) (isWithin_br 48 57 rfl rfl (fun z => ?_) (fun z => ?_))
      · rw [digs_n (fun w => z w.2)] at q
        exact br_t rfl q
      · rw [digs_t ⟨by omega, z⟩] at q
        refine br_f one_ne (codeC hc' h5 (by omega) (nm_e (nm_e ?_)))
        rw [nI_1]
        have e : gi (si (si M 6 v) 5 (nI nx)) 6 = v := rfl
        rw [e]
        have e2 : gi (si (si (si M 6 v) 5 (nI nx)) 6 ((10 : Int32) * v + cd nx - (48 : Int32))) 5 = nI nx := rfl
        rw [e2, nI_1, si_4]
        exact ih (j + 1) (nx + 1) ((10 : Int32) * v + cd nx - (48 : Int32)) (by omega) (by omega) hc q
theorem numC {Q : Int32 → Mm → Prop} {lo hi : Int32} (l h : Int) (hl : lo.toInt = l) (hh : hi.toInt = h) (hc : CDc st N cd M) (h5 : gi M 5 = nI nx) (hn : nx ≤ N)
    (h1 : isN cd N nx l h → Q 1 (si (si M 6 (dV cd N nx)) 5 (nI (dX cd N nx)))) (h0 : ¬ isN cd N nx l h → ∀ x, Q 0 (si (si M 6 x) 5 (nI nx))) : wX5_takesNumber lo hi Q M := by
  have hb := hc.2.2.1
  have hle : dX cd N nx ≤ N := digs_le hn
  unfold wX5_takesNumber
  refine nm_e ?_
  rw [h5]
  have e0 : si M 6 0 = si (si M 6 0) 5 (nI nx) := by
    have : si (si M 6 0) 5 (gi (si M 6 0) 5) = si M 6 0 := si_self _ 5
    rw [show gi (si M 6 0) 5 = nI nx from h5] at this
    exact this.symm
  rw [e0]
  refine digitsC 3 0 nx 0 rfl hn hc ?_
  unfold tnT
  refine br_c (fun g => nm_e ?_) (fun g => ?_)
  · have g' : nI (dX cd N nx) ≤ nI nx := g
    rw [nI_leI (by omega) (by omega)] at g'
    rw [si_si]
    exact h0 (fun z => by have := z.1; omega) _
  · have g' : ¬ nI (dX cd N nx) ≤ nI nx := g
    rw [nI_leI (by omega) (by omega)] at g'
    refine isWithin_br l h hl hh (fun z => nm_e ?_) (fun z => ?_)
    · rw [si_si]
      exact h0 (fun w => z w.2) _
    · exact h1 ⟨by omega, z⟩
end CLASS
section MODEL
variable {st N nx : Nat} {cd : Nat → Int32} {M : Mm}
theorem codeM_t {Q : Int32 → Mm → Prop} (hc : CDm st N cd M) (h5 : gi M 35 = nI (st + nx)) (hn : nx < N) (q : Q (cd nx) M) : wX7_codeAt Q M := by
  obtain ⟨h4, hb, hcd⟩ := hc
  unfold wX7_codeAt
  rw [h4, h5]
  refine br_f (by rw [nI_leI (by omega) (by omega)]; omega) ⟨vp_in_nI (by omega) (by decide), ?_⟩
  rw [nI_clamp (by omega), hcd nx hn]
  exact q
theorem codeM_n {Q : Int32 → Mm → Prop} (hc : CDm st N cd M) (h5 : gi M 35 = nI (st + nx)) (hn : nx ≤ N) (h : ¬ nx < N) (q : Q (-9) M) : wX7_codeAt Q M := by
  obtain ⟨h4, hb, hcd⟩ := hc
  unfold wX7_codeAt
  rw [h4, h5]
  exact br_t (by rw [nI_leI (by omega) (by omega)]; omega) q
theorem readsM_t {Q : Int32 → Mm → Prop} {code : Int32} (hc : CDm st N cd M) (h5 : gi M 35 = nI (st + nx)) (h : isL cd N nx code) (q : Q 1 (si M 35 (nI (st + (nx + 1))))) : wX7_readsLetter code Q M := by
  unfold wX7_readsLetter
  refine codeM_t hc h5 h.1 (br_t h.2 (nm_e ?_))
  rw [h5, show (1 : Int32) = nI 1 from rfl, nI_add, Nat.add_assoc]
  exact q
theorem readsM_n {Q : Int32 → Mm → Prop} {code : Int32} (hc : CDm st N cd M) (h5 : gi M 35 = nI (st + nx)) (hn : nx ≤ N) (h9 : ¬ (-9 : Int32) = code) (h : ¬ isL cd N nx code) (q : Q 0 M) : wX7_readsLetter code Q M := by
  unfold wX7_readsLetter
  by_cases g : nx < N
  · exact codeM_t hc h5 g (br_f (fun e => h ⟨g, e⟩) q)
  · exact codeM_n hc h5 hn g (br_f h9 q)
def rnT (lo hi y x : Int32) (Q : Int32 → Mm → Prop) (M : Mm) : Prop := ((gi M 35 = y → ∀ M4, M4 = si M 35 y → Q (-9) M4) ∧ (¬ gi M 35 = y → wX7_within x lo hi (fun r M5 => (r = 0 → ∀ M7, M7 = si M5 35 y → Q (-9) M7) ∧ (¬ r = 0 → Q x M5)) M))
theorem digitsM {Q : Int32 → Mm → Prop} {lo hi : Int32} {n0 : Nat} : ∀ (f nx : Nat) (v : Int32), f + nx = 3 + n0 → n0 ≤ nx → nx ≤ N → CDm st N cd M → (rnT lo hi (nI (st + n0)) (digs cd N f nx v).2 Q (si M 35 (nI (st + (digs cd N f nx v).1)))) → lX7_readsNumber_8 lo hi (nI (st + n0)) Q v (si M 35 (nI (st + nx))) := by
  intro f
  induction f with
  | zero =>
    intro nx v hj h0 hn hc q
    have hb := hc.2.1
    refine lX7_readsNumber_8_mk _ _ _ _ _ _ (br_t ?_ q)
    show nI (st + n0) + nI 3 ≤ nI (st + nx)
    rw [nI_add]
    exact nI_le (by omega) (by omega)
  | succ f ih =>
    intro nx v hj h0 hn hc q
    have hb := hc.2.1
    have hc' : CDm st N cd (si M 35 (nI (st + nx))) := hc
    have h5 : gi (si M 35 (nI (st + nx))) 35 = nI (st + nx) := rfl
    refine lX7_readsNumber_8_mk _ _ _ _ _ _ (br_f ?_ ?_)
    · show ¬ nI (st + n0) + nI 3 ≤ nI (st + nx)
      rw [nI_add]
      exact nI_ge (by omega) (by omega)
    · by_cases g : nx < N
      · refine codeM_t hc' h5 g ?_
        by_cases z : inI (cd nx) 48 57
        · rw [digs_t ⟨g, z⟩] at q
          refine within_t 48 57 rfl rfl z (codeM_t hc' h5 g (nm_e ?_))
          rw [h5, show (1 : Int32) = nI 1 from rfl, nI_add, si_si, Nat.add_assoc]
          exact ih (nx + 1) ((10 : Int32) * v + cd nx - (48 : Int32)) (by omega) (by omega) (by omega) hc q
        · rw [digs_n (fun w => z w.2)] at q
          exact within_n 48 57 rfl rfl z q
      · rw [digs_n (fun w => g w.1)] at q
        exact codeM_n hc' h5 hn g (within_n 48 57 rfl rfl (by decide) q)
theorem numM_t {Q : Int32 → Mm → Prop} {lo hi : Int32} (l h : Int) (hl : lo.toInt = l) (hh : hi.toInt = h) (hc : CDm st N cd M) (h5 : gi M 35 = nI (st + nx)) (hn : nx ≤ N) (g : isN cd N nx l h) (q : Q (dV cd N nx) (si M 35 (nI (st + dX cd N nx)))) : wX7_readsNumber lo hi Q M := by
  have hb := hc.2.1
  have hle : dX cd N nx ≤ N := digs_le hn
  have hgt := g.1
  unfold wX7_readsNumber
  have e0 : si M 35 (nI (st + nx)) = M := by rw [← h5]; exact si_self _ 35
  rw [h5]
  have := digitsM (M := M) (Q := Q) (lo := lo) (hi := hi) (n0 := nx) 3 nx 0 (by omega) (Nat.le_refl _) hn hc ?_
  · rw [e0] at this; exact this
  · unfold rnT
    refine br_f ?_ (within_t l h hl hh g.2 q)
    show ¬ nI (st + dX cd N nx) = nI (st + nx)
    rw [nI_eq (by omega) (by omega)]
    omega
theorem numM_n {Q : Int32 → Mm → Prop} {lo hi : Int32} (l h : Int) (hl : lo.toInt = l) (hh : hi.toInt = h) (hc : CDm st N cd M) (h5 : gi M 35 = nI (st + nx)) (hn : nx ≤ N) (g : ¬ isN cd N nx l h) (q : Q (-9) M) : wX7_readsNumber lo hi Q M := by
  have hb := hc.2.1
  have hle : dX cd N nx ≤ N := digs_le hn
  have hge : nx ≤ dX cd N nx := digs_ge
  unfold wX7_readsNumber
  have e0 : si M 35 (nI (st + nx)) = M := by rw [← h5]; exact si_self _ 35
  rw [h5]
  have := digitsM (M := M) (Q := Q) (lo := lo) (hi := hi) (n0 := nx) 3 nx 0 (by omega) (Nat.le_refl _) hn hc ?_
  · rw [e0] at this; exact this
  · unfold rnT
    refine br_c (fun z => nm_e ?_) (fun z => ?_)
    · rw [si_si, e0]; exact q
    · refine within_n l h hl hh (fun w => g ⟨?_, w⟩) (nm_e (by rw [si_si, e0]; exact q))
      have z' : ¬ nI (st + dX cd N nx) = nI (st + nx) := z
      rw [nI_eq (by omega) (by omega)] at z'
      omega
end MODEL
