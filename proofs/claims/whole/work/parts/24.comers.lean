/-! questions after a number that a count bounds -/
theorem has_br {M : Mm} {v cnt : Int32} {n : Nat} {A B : Int32 → Mm → Prop} (hc : cnt = nI n) (hn : n ≤ 1000) (h0 : (∀ j, j < n → v ≠ nI j) → A 0 M) (h1 : ∀ j, j < n → v = nI j → B 1 M) : wX6_isWithin v 0 (cnt - 1) (fun r M => (r = 0 → A r M) ∧ (¬ r = 0 → B r M)) M := by
  have e : (cnt - 1).toInt = (n : Int) - 1 := by rw [hc]; exact nI_m1 hn
  refine isWithin_br 0 ((n : Int) - 1) rfl e (fun c => h0 (fun j hj q => c ?_)) (fun c => ?_)
  · subst q
    unfold inI
    rw [nI_toInt (by omega)]
    omega
  · have hn0 : 0 < n := by have := c.1; have := c.2; omega
    obtain ⟨j, hj, q⟩ := inI_nI c (n := n - 1) (by omega)
    exact h1 j (by omega) q
theorem is_t {M : Mm} {cnt : Int32} {n j : Nat} {B : Int32 → Mm → Prop} {A : Int32 → Mm → Prop} (hc : cnt = nI n) (hn : n ≤ 1000) (hj : j < n) (q : B 1 M) : (nI j < 0 → (0 : Int32) = 0 → A 0 M) → ((nI j < 0 → ((0 : Int32) = 0 → A 0 M) ∧ (¬ (0 : Int32) = 0 → B 0 M)) ∧ (¬ nI j < 0 → ((cnt ≤ nI j → ((0 : Int32) = 0 → A 0 M) ∧ (¬ (0 : Int32) = 0 → B 0 M)) ∧ (¬ cnt ≤ nI j → ((1 : Int32) = 0 → A 1 M) ∧ (¬ (1 : Int32) = 0 → B 1 M))))) := by
  intro _
  subst hc
  exact br_f (nI_pos (by omega)) (br_f (nI_ge hj (by omega)) (br_f one_ne q))
theorem isSort_t {M : Mm} {n j : Nat} {A B : Int32 → Mm → Prop} (hc : gi M 31 = nI n) (hn : n ≤ 1000) (hj : j < n) (q : B 1 M) : wX7_isSort (nI j) (fun r M => (r = 0 → A r M) ∧ (¬ r = 0 → B r M)) M := by
  unfold wX7_isSort
  rw [hc]
  exact br_f (nI_pos (by omega)) (br_f (nI_ge hj (by omega)) (br_f one_ne q))
theorem isSort_n {M : Mm} {v : Int32} {n : Nat} {A B : Int32 → Mm → Prop} (hc : gi M 31 = nI n) (hn : n ≤ 1000) (h : ∀ j, j < n → v ≠ nI j) (q : A 0 M) : wX7_isSort v (fun r M => (r = 0 → A r M) ∧ (¬ r = 0 → B r M)) M := by
  unfold wX7_isSort
  rw [hc]
  rcases pk_ix v (n := n) (by omega) with d | d | ⟨j, hj, d⟩
  · exact br_t d (br_t rfl q)
  · exact br_c (fun _ => br_t rfl q) (fun _ => br_t d (br_t rfl q))
  · exact absurd d (h j hj)
theorem isComer_t {M : Mm} {n j : Nat} {A B : Int32 → Mm → Prop} (hc : gi M 40 = nI n) (hn : n ≤ 1000) (hj : j < n) (q : B 1 M) : wX7_isComer (nI j) (fun r M => (r = 0 → A r M) ∧ (¬ r = 0 → B r M)) M := by
  unfold wX7_isComer
  rw [hc]
  exact br_f (nI_pos (by omega)) (br_f (nI_ge hj (by omega)) (br_f one_ne q))
theorem isComer_n {M : Mm} {v : Int32} {n : Nat} {A B : Int32 → Mm → Prop} (hc : gi M 40 = nI n) (hn : n ≤ 1000) (h : ∀ j, j < n → v ≠ nI j) (q : A 0 M) : wX7_isComer v (fun r M => (r = 0 → A r M) ∧ (¬ r = 0 → B r M)) M := by
  unfold wX7_isComer
  rw [hc]
  rcases pk_ix v (n := n) (by omega) with d | d | ⟨j, hj, d⟩
  · exact br_t d (br_t rfl q)
  · exact br_c (fun _ => br_t rfl q) (fun _ => br_t d (br_t rfl q))
  · exact absurd d (h j hj)
/-- the kind, and what comes of it -/
theorem isKind_br {M : Mm} {c j k : Nat} {A B : Int32 → Mm → Prop} (hj : j < 40) (h0 : ga M 26 j < nI k → A 0 M) (h1 : ¬ ga M 26 j < nI k → B 1 M) : wX6_isKind (nI j) (nI k) (fun r M => (r = 0 → A r M) ∧ (¬ r = 0 → B r M)) M := by
  unfold wX6_isKind
  exact at_in (n := 40) rfl (by decide) hj (br_c (fun q => br_t rfl (h0 q)) (fun q => br_f one_ne (h1 q)))
theorem Rel_q {M : Mm} (h : Rel M) : ∃ n c, n ≤ 3 ∧ c ≤ 40 ∧ gi M 14 = nI n ∧ gi M 31 = nI n ∧ gi M 23 = nI c ∧ gi M 40 = nI c ∧ (∀ j, j < c → PQ1 n M j) ∧ PL c M ∧ RP n M := by
  obtain ⟨-, -, n, c, h1, h2, h3, ⟨q1, q2, q3, q4, q5, q6⟩, h4⟩ := h
  exact ⟨n, c, h1, q1, h2, h3, q2, q3, q5, q6, h4⟩
theorem kind_lt {M : Mm} {n j : Nat} (h : PQ1 n M j) (k : Nat) (hk : k < 3) : ga M 26 j < nI k ↔ ga M 50 j < nI k := by rw [h.1]
theorem ok_as {M : Mm} (v k : Int32) (h : Rel M) : okI (wX6_as v k) (wX7_as v k) M := by
  unfold okI wX6_as wX7_as wX3_has
  obtain ⟨n, c, hn, hc, h14, h31, h23, h40, hq, hl, hp⟩ := Rel_q h
  refine nm_e (has_br (cnt := gi M 23) h23 (by omega) (fun a => nm_e (isComer_n h40 (by omega) a ⟨rfl, Rel_f h 0⟩)) (fun j hj e => ?_))
  subst e
  refine isWithin_br 0 2 rfl rfl (fun a => nm_e (isComer_t h40 (by omega) hj (within_n 0 2 rfl rfl a ⟨rfl, Rel_f h 0⟩))) (fun a => ?_)
  obtain ⟨t, ht, rfl⟩ := inI_nI a (n := 2) rfl
  have hj40 : j < 40 := by omega
  have hcl : (nI j).toNatClampNeg = j := nI_clamp (by omega)
  refine isKind_br (c := 0) hj40 (fun q => ?_) (fun q => ?_)
  · unfold wX6_faulted
    refine nm_e (nm_e (isComer_t h40 (by omega) hj (within_t 0 2 rfl rfl a ⟨vp_in_nI hj40 (by decide), br_t ?_ ?_⟩)))
    · rw [hcl]; exact (kind_lt (hq j hj) t (by omega)).mp q
    · unfold wX7_fails
      exact nm_e ⟨rfl, ⟨h.1.1, h.1.2.1, rfl, h.1.2.2.2⟩, h.2⟩
  · refine nm_e (isComer_t h40 (by omega) hj (within_t 0 2 rfl rfl a ⟨vp_in_nI hj40 (by decide), br_f ?_ ⟨rfl, Rel_f h 0⟩⟩))
    rw [hcl]
    exact fun z => q ((kind_lt (hq j hj) t (by omega)).mpr z)
theorem Rel_t {M : Mm} (h : Rel M) (v : Int32) : Rel (si (si M 1 v) 27 v) := ⟨⟨h.1.1, rfl, h.1.2.2.1, h.1.2.2.2⟩, h.2⟩
theorem ok_call {M : Mm} (v : Int32) (h : Rel M) : okI (wX6_call v) (wX7_call v) M := by
  unfold okI wX6_call wX7_call wX3_has
  obtain ⟨n, c, hn, hc, h14, h31, h23, h40, hq, hl, hp⟩ := Rel_q h
  refine has_br (cnt := gi M 23) h23 (by omega) (fun a => isComer_n h40 (by omega) a ⟨rfl, h⟩) (fun j hj e => ?_)
  subst e
  have hj40 : j < 40 := by omega
  have hcl : (nI j).toNatClampNeg = j := nI_clamp (by omega)
  have hv : vp_in (nI j) 40 := vp_in_nI hj40 (by decide)
  have hk := (hq j hj).2.1
  have h50 := (hq j hj).1
  have e27 := h.1.2.1
  refine isKind_br (k := 2) (c := 0) hj40 (fun q => ?_) (fun q => ?_)
  · have n2 : ¬ ga M 50 j = 2 := by
      rw [h50]
      intro z
      rw [z] at q
      exact absurd q (by decide)
    unfold wX6_calledByLent wX6_leaveNumber
    refine nm_e (isComer_t h40 (by omega) hj ⟨hv, br_f (by rw [hcl]; exact n2) ?_⟩)
    unfold wX7_begins
    refine nm_e ⟨hv, br_f (by rw [hcl]; exact n2) ⟨rfl, ?_⟩⟩
    show Rel (si (si M 1 (31 * gi M 1 + 4)) 27 (31 * gi M 27 + 4))
    rw [e27]
    exact Rel_t h _
  · have n2 : ga M 50 j = 2 := by
      rw [h50]
      rcases hk with z | z | z
      · rw [z] at q; exact absurd (by decide) q
      · rw [z] at q; exact absurd (by decide) q
      · exact z
    unfold wX6_calledByDone wX6_leaveNumber
    refine nm_e (isComer_t h40 (by omega) hj ⟨hv, br_t (by rw [hcl]; exact n2) ?_⟩)
    unfold wX7_begins
    refine nm_e ⟨hv, br_t (by rw [hcl]; exact n2) ⟨rfl, ?_⟩⟩
    show Rel (si (si M 1 (31 * gi M 1 + 5)) 27 (31 * gi M 27 + 5))
    rw [e27]
    exact Rel_t h _
theorem ok_tell {M : Mm} (v : Int32) (h : Rel M) : okI (wX6_tell v) (wX7_tell v) M := by
  unfold okI wX6_tell wX7_tell wX3_has
  obtain ⟨n, c, hn, hc, h14, h31, h23, h40, hq, hl, hp⟩ := Rel_q h
  refine has_br (cnt := gi M 23) h23 (by omega) (fun a => isComer_n h40 (by omega) a ⟨rfl, h⟩) (fun j hj e => ?_)
  subst e
  have hj40 : j < 40 := by omega
  have hcl : (nI j).toNatClampNeg = j := nI_clamp (by omega)
  have hv : vp_in (nI j) 40 := vp_in_nI hj40 (by decide)
  obtain ⟨h50, hk, h49, -, h51, -, -⟩ := hq j hj
  have e27 := h.1.2.1
  refine at_in (n := 40) rfl (by decide) hj40 (br_c (fun q => ?_) (fun q => br_c (fun q2 => ?_) (fun q2 => ?_)))
  · unfold wX6_toldByStands wX6_toldByComer wX6_leaveNumber
    refine nm_e (nm_e (at_in (n := 40) rfl (by decide) hj40 (at_in (n := 40) rfl (by decide) hj40 ?_)))
    refine isComer_t h40 (by omega) hj ⟨hv, hv, br_t (by rw [hcl]; exact h50.trans q) ?_⟩
    unfold wX7_begins
    rw [hcl]
    refine nm_e (nm_e ⟨hv, ?_, ?_⟩)
    · show ga M 27 j + 10 * ga M 28 j = ga M 49 j + 10 * ga M 51 j
      rw [h49, h51]
    · show Rel (si (si (si (si M 1 (31 * gi M 1 + 2)) 1 (31 * (31 * gi M 1 + 2) + 1)) 27 (31 * gi M 27 + 2)) 27 (31 * (31 * gi M 27 + 2) + 1))
      rw [e27]
      exact ⟨⟨h.1.1, rfl, h.1.2.2.1, h.1.2.2.2⟩, h.2⟩
  · unfold wX6_toldByDone wX6_toldByStands wX6_toldByComer wX6_leaveNumber
    refine nm_e (nm_e (nm_e (at_in (n := 40) rfl (by decide) hj40 (at_in (n := 40) rfl (by decide) hj40 (nm_e (at_in (n := 40) rfl (by decide) hj40 ?_))))))
    have n1 : ¬ ga M 50 (nI j).toNatClampNeg = 1 := by rw [hcl, h50]; exact q
    have n2 : ga M 50 (nI j).toNatClampNeg = 2 := by rw [hcl, h50]; exact q2
    refine isComer_t h40 (by omega) hj ⟨hv, hv, br_f n1 (br_t n2 ?_)⟩
    unfold wX7_begins
    rw [hcl]
    refine nm_e (nm_e (nm_e (nm_e ⟨hv, ?_, ?_⟩)))
    · show ga M 27 j + 10 * ga M 28 j + ga M 27 j = 2 * ga M 49 j + 10 * ga M 51 j
      rw [h49, h51]
      rw [Int32.add_assoc, Int32.add_comm (10 * ga M 28 j), ← Int32.add_assoc]
      congr 1
      rw [show (2 : Int32) = 1 + 1 from rfl, Int32.add_mul, Int32.one_mul]
    · show Rel (si (si (si (si (si (si (si (si M 1 _) 1 _) 1 _) 1 _) 27 _) 27 _) 27 _) 27 _)
      exact ⟨⟨h.1.1, by show 31 * (31 * (31 * (31 * gi M 27 + 3) + 2) + 1) + 1 = 31 * (31 * (31 * (31 * gi M 1 + 3) + 2) + 1) + 1; rw [e27], h.1.2.2.1, h.1.2.2.2⟩, h.2⟩
  · have n1 : ¬ ga M 50 (nI j).toNatClampNeg = 1 := by rw [hcl, h50]; exact q
    have n2 : ¬ ga M 50 (nI j).toNatClampNeg = 2 := by rw [hcl, h50]; exact q2
    unfold wX6_toldByComer wX6_leaveNumber
    refine nm_e (at_in (n := 40) rfl (by decide) hj40 (isComer_t h40 (by omega) hj ⟨hv, hv, br_f n1 (br_f n2 ?_)⟩))
    unfold wX7_begins
    rw [hcl]
    refine nm_e ⟨?_, ?_⟩
    · show ga M 27 j = ga M 49 j
      rw [h49]
    · show Rel (si (si M 1 (31 * gi M 1 + 1)) 27 (31 * gi M 27 + 1))
      rw [e27]
      exact Rel_t h _
theorem ok_ofComer {M : Mm} (v w : Int32) (h : Rel M) : okI (wX6_ofComer v w) (wX7_ofComer v w) M := by
  unfold okI wX6_ofComer wX7_ofComer wX3_has
  obtain ⟨n, c, hn, hc, h14, h31, h23, h40, hq, hl, hp⟩ := Rel_q h
  refine has_br (cnt := gi M 23) h23 (by omega) (fun a => isComer_n h40 (by omega) a ⟨rfl, h⟩) (fun j hj e => ?_)
  subst e
  have hj40 : j < 40 := by omega
  have hcl : (nI j).toNatClampNeg = j := nI_clamp (by omega)
  have hv : vp_in (nI j) 40 := vp_in_nI hj40 (by decide)
  obtain ⟨h50, hk, h49, ⟨t, ht, h27⟩, h51, h52, h53⟩ := hq j hj
  have at1 : ∀ (k : Nat) (hk : lenA k = 40) (Q : Int32 → Mm → Prop), Q (ga M k j) M → wX6_at k (nI j) Q M := fun k hk Q q => at_in (n := 40) hk (by decide) hj40 q
  refine br_c (fun q => ?_) (fun q0 => br_c (fun q => ?_) (fun q1 => br_c (fun q => ?_) (fun q2 => br_c (fun q => ?_) (fun q3 => br_c (fun q => ?_) (fun q4 => br_c (fun q => ?_) (fun q5 => ?_))))))
  · refine at1 26 rfl _ (isComer_t h40 (by omega) hj (br_t q ⟨hv, ?_, h⟩)); rw [hcl]; exact h50.symm
  · refine at1 27 rfl _ (isComer_t h40 (by omega) hj (br_f q0 (br_t q ⟨hv, ?_, h⟩))); rw [hcl]; exact h49.symm
  · refine at1 28 rfl _ (isComer_t h40 (by omega) hj (br_f q0 (br_f q1 (br_t q ⟨hv, ?_, h⟩)))); rw [hcl]; exact h51.symm
  · refine at1 29 rfl _ (isComer_t h40 (by omega) hj (br_f q0 (br_f q1 (br_f q2 (br_t q ⟨hv, ?_, h⟩))))); rw [hcl]; exact h52.symm
  · refine at1 30 rfl _ (isComer_t h40 (by omega) hj (br_f q0 (br_f q1 (br_f q2 (br_f q3 (br_t q ⟨hv, ?_, h⟩)))))); rw [hcl]; exact h53.symm
  · refine isKind_br (k := 2) (c := 0) hj40 (fun z => ?_) (fun z => ?_)
    · refine isComer_t h40 (by omega) hj (br_f q0 (br_f q1 (br_f q2 (br_f q3 (br_f q4 (br_t q ⟨hv, br_f ?_ ⟨rfl, h⟩⟩))))))
      rw [hcl, h50]
      intro y
      rw [y] at z
      exact absurd z (by decide)
    · have n2 : ga M 50 j = 2 := by
        rw [h50]
        rcases hk with y | y | y
        · rw [y] at z; exact absurd (by decide) z
        · rw [y] at z; exact absurd (by decide) z
        · exact y
      refine at1 27 rfl _ ?_
      rw [h27]
      refine at_in (n := 3) rfl (by decide) (by omega) (at1 28 rfl _ (isComer_t h40 (by omega) hj (br_f q0 (br_f q1 (br_f q2 (br_f q3 (br_f q4 (br_t q ⟨hv, br_t (by rw [hcl]; exact n2) ⟨hv, ?_⟩⟩))))))))
      rw [hcl, h49, h27]
      refine ⟨vp_in_nI (by omega) (by decide), hv, ?_, h⟩
      rw [nI_clamp (by omega), h51]
      rcases told_cases hp with ⟨n0, -, -⟩ | ⟨-, -, d, hd, hdn, hpp, -⟩
      · omega
      · rw [(hpp.2.2.2.2.2.2 t (by omega)).2.2.1, (hpp.2.2.2.2.2.2 t (by omega)).2.2.2, hpp.2.2.2.2.1, hpp.2.2.2.2.2.1]
  · exact isComer_t h40 (by omega) hj (br_f q0 (br_f q1 (br_f q2 (br_f q3 (br_f q4 (br_f q5 ⟨rfl, h⟩))))))
