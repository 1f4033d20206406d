/-- the sort that a draw tells -/
def drawn (T : Nat → Nat) (n v t : Nat) : Prop := t < n ∧ v < sumTo T (t + 1) ∧ ∀ s, s < t → ¬ v < sumTo T (s + 1)
theorem sortDrawn_ok {M : Mm} {n v : Nat} {T : Nat → Nat} {Q : Int32 → Mm → Prop} (hn : n ≤ 3) (h14 : gi M 14 = nI n) (hT : ∀ s, s < n → ga M 13 s = nI (T s)) (hs : sumTo T n ≤ 11) (hv : v ≤ 11) (q1 : ∀ t, drawn T n v t → Q (nI t) M) (q2 : (∀ s, s < n → ¬ v < sumTo T (s + 1)) → Q (-9) M) : wX2_sortDrawn (nI v) Q M := by
  unfold wX2_sortDrawn
  rw [show (0 : Int32) = nI 0 from rfl]
  refine up_loop (fun j (_ : Unit) => lX2_sortDrawn_4 (nI v) Q (nI (sumTo T j)) (nI j) M) (fun j _ => ∀ s, s < j → ¬ v < sumTo T (s + 1)) n ?_ ?_ 0 () (Nat.zero_le _) (fun s hs => absurd hs (Nat.not_lt_zero _))
  · rintro _ hi
    exact lX2_sortDrawn_4_mk _ _ _ _ _ (br_t (by rw [h14]; exact nI_le (Nat.le_refl _) (by omega)) (q2 hi))
  · rintro j _ hj hi ih
    refine lX2_sortDrawn_4_mk _ _ _ _ _ (br_f (by rw [h14]; exact nI_ge hj (by omega)) (at_in (n := 3) rfl (by decide) (by omega) ?_))
    have hle := sumTo_le T (a := j + 1) (b := n) (by omega)
    rw [hT j hj, nI_add, show sumTo T j + T j = sumTo T (j + 1) from rfl]
    refine br_c (fun g => ?_) (fun g => ?_)
    · rw [nI_1]
      rw [nI_leI (by omega) (by omega)] at g
      refine ih () (fun s hs' => ?_)
      by_cases e : s = j
      · subst e; omega
      · exact hi s (by omega)
    · rw [nI_leI (by omega) (by omega)] at g
      exact q1 j ⟨hj, by omega, hi⟩
theorem sortBy_ok {M : Mm} {n v : Nat} {T : Nat → Nat} {Q : Int32 → Mm → Prop} (hn : n ≤ 3) (h31 : gi M 31 = nI n) (hT : ∀ s, s < n → ga M 36 s = nI (T s)) (hs : sumTo T n ≤ 11) (hv : v ≤ 11) (q1 : ∀ t, drawn T n v t → Q (nI t) M) (q2 : (∀ s, s < n → ¬ v < sumTo T (s + 1)) → Q (-9) M) : wX7_sortBy (nI v) Q M := by
  unfold wX7_sortBy
  have start : lX7_sortBy_4 Q (nI (v - sumTo T 0)) (nI 0) M := by
    refine up_loop (fun j (_ : Unit) => lX7_sortBy_4 Q (nI (v - sumTo T j)) (nI j) M) (fun j _ => ∀ s, s < j → ¬ v < sumTo T (s + 1)) n ?_ ?_ 0 () (Nat.zero_le _) (fun s hs => absurd hs (Nat.not_lt_zero _))
    · rintro _ hi
      exact lX7_sortBy_4_mk _ _ _ _ (br_t (by rw [h31]; exact nI_le (Nat.le_refl _) (by omega)) (q2 hi))
    · rintro j _ hj hi ih
      refine lX7_sortBy_4_mk _ _ _ _ (br_f (by rw [h31]; exact nI_ge hj (by omega)) ⟨vp_in_nI (by omega) (by decide), ?_⟩)
      have hle := sumTo_le T (a := j + 1) (b := n) (by omega)
      have hsj : sumTo T (j + 1) = sumTo T j + T j := rfl
      have hvj : sumTo T j ≤ v := by
        cases j with
        | zero => exact Nat.zero_le _
        | succ j => have := hi j (by omega); omega
      rw [nI_clamp (by omega), hT j hj]
      refine br_c (fun g => ⟨vp_in_nI (by omega) (by decide), ?_⟩) (fun g => ?_)
      · rw [nI_leI (by omega) (by omega)] at g
        rw [nI_1, pk_sub g, show v - sumTo T j - T j = v - sumTo T (j + 1) by omega]
        refine ih () (fun s hs' => ?_)
        by_cases e : s = j
        · subst e; omega
        · exact hi s (by omega)
      · rw [nI_leI (by omega) (by omega)] at g
        exact q1 j ⟨hj, by omega, hi⟩
  exact start
theorem drawn_eq {T : Nat → Nat} {n v t t' : Nat} (h : drawn T n v t) (h' : drawn T n v t') : t = t' := by
  rcases Nat.lt_trichotomy t t' with q | q | q
  · exact absurd h.2.1 (h'.2.2 t q)
  · exact q
  · exact absurd h'.2.1 (h.2.2 t' q)
/-- the raw numbers of the line, both sides -/
def PQf (n c : Nat) (k so wa ca se ro : Nat → Int32) (st : Int32) (k' so' wa' ca' se' : Nat → Int32) : Prop := c ≤ 40 ∧ (∀ j, j < c → k' j = k j ∧ (k j = 0 ∨ k j = 1 ∨ k j = 2) ∧ so' j = so j ∧ (∃ t, t < n ∧ so j = nI t) ∧ wa' j = wa j ∧ ca' j = ca j ∧ se' j = se j) ∧ (stan k c).length ≤ 5 ∧ st = nI (stan k c).length ∧ ∀ (i x : Nat), (stan k c)[i]? = some x → ro i = nI x
section PQFS
variable {n c : Nat} {k so wa ca se ro k' so' wa' ca' se' : Nat → Int32} {st : Int32}
theorem pqf_wait (h : PQf n c k so wa ca se ro st k' so' wa' ca' se') {f f' : Nat → Int32} (hf : ∀ x, f x = if x ∈ stan k c then wa x + 1 else wa x) (hf' : ∀ x, x < c → f' x = if k' x = 1 then wa' x + 1 else wa' x) : PQf n c k so f ca se ro st k' so' f' ca' se' := by
  obtain ⟨h1, h2, h3⟩ := h
  refine ⟨h1, fun j hj => ?_, h3⟩
  obtain ⟨a1, a2, a3, a4, a5, a6⟩ := h2 j hj
  refine ⟨a1, a2, a3, a4, ?_, a6⟩
  rw [hf, hf' j hj, a1, a5]
  by_cases e : k j = 1
  · rw [if_pos e, if_pos (stan_mem.mpr ⟨hj, e⟩)]
  · rw [if_neg e, if_neg (fun z => e (stan_mem.mp z).2)]
theorem pqf_serve (h : PQf n c k so wa ca se ro st k' so' wa' ca' se') {i x : Nat} {t : Int32} {f : Nat → Int32} (hx : (stan k c)[i]? = some x) (hf : ∀ j y, ((stan k c).eraseIdx i)[j]? = some y → f j = nI y) : PQf n c (upd k x 2) so wa ca (upd se x t) f (nI ((stan k c).length - 1)) (upd k' x 2) so' wa' ca' (upd se' x t) := by
  obtain ⟨h1, h2, h3, h4, h5⟩ := h
  have e := stan_go (k' := upd k x 2) hx (fun j _ e => pk_un e) (by rw [pk_us]; decide)
  have hi := (List.getElem?_eq_some_iff.mp hx).1
  refine ⟨h1, fun j hj => ?_, ?_, ?_, ?_⟩
  · obtain ⟨a1, a2, a3, a4, a5, a6, a7⟩ := h2 j hj
    by_cases z : j = x
    · subst z
      rw [pk_us, pk_us, pk_us, pk_us]
      exact ⟨rfl, Or.inr (Or.inr rfl), a3, a4, a5, a6, rfl⟩
    · rw [pk_un z, pk_un z, pk_un z, pk_un z]
      exact ⟨a1, a2, a3, a4, a5, a6, a7⟩
  · rw [e, List.length_eraseIdx, if_pos hi]; omega
  · rw [e, List.length_eraseIdx, if_pos hi]
  · rw [e]; exact hf
theorem pqf_come0 (h : PQf n c k so wa ca se ro st k' so' wa' ca' se') {s : Nat} {t : Int32} (hc : c < 40) (hs : s < n) : PQf n (c + 1) (upd k c 0) (upd so c (nI s)) (upd wa c 0) (upd ca c t) (upd se c (-9)) ro st (upd k' c 0) (upd so' c (nI s)) (upd wa' c 0) (upd ca' c t) (upd se' c (-9)) := by
  obtain ⟨h1, h2, h3, h4, h5⟩ := h
  have e : stan (upd k c 0) (c + 1) = stan k c := by
    rw [stan_succ, if_neg (by rw [pk_us]; decide), List.append_nil]
    exact stan_congr (fun j hj => by rw [pk_un (by omega)])
  refine ⟨by omega, fun j hj => ?_, by rw [e]; exact h3, by rw [e]; exact h4, by rw [e]; exact h5⟩
  by_cases z : j = c
  · subst z
    rw [pk_us, pk_us, pk_us, pk_us, pk_us, pk_us, pk_us, pk_us, pk_us, pk_us]
    exact ⟨rfl, Or.inl rfl, rfl, ⟨s, hs, rfl⟩, rfl, rfl, rfl⟩
  · rw [pk_un z, pk_un z, pk_un z, pk_un z, pk_un z, pk_un z, pk_un z, pk_un z, pk_un z, pk_un z]
    exact h2 j (by omega)
theorem pqf_come1 (h : PQf n c k so wa ca se ro st k' so' wa' ca' se') {s : Nat} {t : Int32} (hc : c < 40) (hs : s < n) (hl : (stan k c).length < 5) : PQf n (c + 1) (upd k c 1) (upd so c (nI s)) (upd wa c 0) (upd ca c t) (upd se c (-9)) (upd ro (stan k c).length (nI c)) (nI ((stan k c).length + 1)) (upd k' c 1) (upd so' c (nI s)) (upd wa' c 0) (upd ca' c t) (upd se' c (-9)) := by
  obtain ⟨h1, h2, h3, h4, h5⟩ := h
  have e : stan (upd k c 1) (c + 1) = stan k c ++ [c] := by
    rw [stan_succ, if_pos pk_us]
    congr 1
    exact stan_congr (fun j hj => by rw [pk_un (by omega)])
  refine ⟨by omega, fun j hj => ?_, by rw [e, List.length_append]; show (stan k c).length + 1 ≤ 5; omega, by rw [e, List.length_append]; rfl, fun i x hx => ?_⟩
  · by_cases z : j = c
    · subst z
      rw [pk_us, pk_us, pk_us, pk_us, pk_us, pk_us, pk_us, pk_us, pk_us, pk_us]
      exact ⟨rfl, Or.inr (Or.inl rfl), rfl, ⟨s, hs, rfl⟩, rfl, rfl, rfl⟩
    · rw [pk_un z, pk_un z, pk_un z, pk_un z, pk_un z, pk_un z, pk_un z, pk_un z, pk_un z, pk_un z]
      exact h2 j (by omega)
  · rw [e] at hx
    by_cases z : i = (stan k c).length
    · subst z
      rw [List.getElem?_append_right (Nat.le_refl _), Nat.sub_self] at hx
      cases hx
      exact pk_us
    · have hi := (List.getElem?_eq_some_iff.mp hx).1
      rw [List.length_append] at hi
      have hi2 : i < (stan k c).length := by
        have : [c].length = 1 := rfl
        omega
      rw [List.getElem?_append_left hi2] at hx
      rw [pk_un z]; exact h5 i x hx
end PQFS
