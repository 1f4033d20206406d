/-! the line: those who stand, as a list -/
theorem stan_succ (k : Nat → Int32) (c : Nat) : stan k (c + 1) = stan k c ++ (if k c = 1 then [c] else []) := by
  unfold stan
  rw [List.range_succ, List.filter_append]
  congr 1
  by_cases h : k c = 1 <;> simp [h]
theorem stan_mem {k : Nat → Int32} {c x : Nat} : x ∈ stan k c ↔ x < c ∧ k x = 1 := by
  unfold stan
  simp
theorem stan_nodup (k : Nat → Int32) (c : Nat) : (stan k c).Nodup := List.Pairwise.filter _ List.nodup_range
theorem stan_congr {k k' : Nat → Int32} {c : Nat} (h : ∀ j, j < c → (k j = 1 ↔ k' j = 1)) : stan k c = stan k' c := by
  unfold stan
  refine List.filter_congr (fun x hx => ?_)
  have := h x (List.mem_range.mp hx)
  simp [this]
theorem stan_pre (k : Nat → Int32) {a c : Nat} (h : a ≤ c) : stan k a <+: stan k c := by
  induction c with
  | zero => have : a = 0 := by omega
            subst this; exact List.prefix_refl _
  | succ c ih =>
    rcases Nat.lt_or_ge a (c + 1) with q | q
    · rw [stan_succ]; exact (ih (by omega)).trans (List.prefix_append _ _)
    · have : a = c + 1 := by omega
      subst this; exact List.prefix_refl _
theorem stan_get {k : Nat → Int32} {a c i x : Nat} (h : a ≤ c) (hx : (stan k a)[i]? = some x) : (stan k c)[i]? = some x := by
  obtain ⟨t, ht⟩ := stan_pre k h
  rw [← ht, List.getElem?_append_left (List.getElem?_eq_some_iff.mp hx).1]
  exact hx
theorem stan_len (k : Nat → Int32) {a c : Nat} (h : a ≤ c) : (stan k a).length ≤ (stan k c).length := (stan_pre k h).length_le
theorem stan_le (k : Nat → Int32) (c : Nat) : (stan k c).length ≤ c := by
  unfold stan
  refine Nat.le_trans (List.length_filter_le _ _) ?_
  simp
theorem filter_erase {l : List Nat} (hn : l.Nodup) : ∀ {i x : Nat}, l[i]? = some x → l.filter (fun y => decide (y ≠ x)) = l.eraseIdx i := by
  induction l with
  | nil => intro i x h; simp at h
  | cons a l ih =>
    intro i x h
    rw [List.nodup_cons] at hn
    cases i with
    | zero =>
      simp at h
      subst h
      simp only [List.eraseIdx_zero, List.tail_cons]
      rw [List.filter_cons_of_neg (by simp)]
      refine List.filter_eq_self.mpr (fun y hy => ?_)
      simp
      rintro rfl
      exact hn.1 hy
    | succ i =>
      rw [List.getElem?_cons_succ] at h
      have hx : x ∈ l := List.mem_of_getElem? h
      have hax : a ≠ x := by rintro rfl; exact hn.1 hx
      rw [List.eraseIdx_cons_succ, List.filter_cons_of_pos (by simp [hax]), ih hn.2 h]
/-- one of those who stand goes -/
theorem stan_go {k k' : Nat → Int32} {c i x : Nat} (hx : (stan k c)[i]? = some x) (hk : ∀ j, j < c → j ≠ x → k' j = k j) (hv : ¬ k' x = 1) : stan k' c = (stan k c).eraseIdx i := by
  rw [← filter_erase (stan_nodup k c) hx]
  unfold stan
  rw [List.filter_filter]
  refine List.filter_congr (fun y hy => ?_)
  by_cases e : y = x
  · subst e; simp [hv]
  · simp [e, hk y (List.mem_range.mp hy) e]
theorem standing_ok {M : Mm} {c : Nat} {Q : Int32 → Mm → Prop} (hc : c ≤ 40) (h40 : gi M 40 = nI c) (q : Q (nI (stan (ga M 50) c).length) M) : wX7_standing Q M := by
  unfold wX7_standing
  rw [show (0 : Int32) = nI 0 from rfl]
  refine up_loop (fun j (_ : Unit) => lX7_standing_4 Q (nI (stan (ga M 50) j).length) (nI j) M) (fun _ _ => True) c ?_ ?_ 0 () (Nat.zero_le _) trivial
  · rintro _ -
    refine lX7_standing_4_mk _ _ _ _ (br_t ?_ q)
    rw [h40]
    exact nI_le (Nat.le_refl _) (by omega)
  · rintro j _ hj - ih
    refine lX7_standing_4_mk _ _ _ _ (br_f ?_ ⟨vp_in_nI (by omega) (by decide), ?_⟩)
    · rw [h40]; exact nI_ge hj (by omega)
    · rw [nI_clamp (by omega)]
      have := ih () trivial
      rw [stan_succ] at this
      refine br_c (fun e => ?_) (fun e => ?_)
      · rw [if_pos e, List.length_append] at this
        rw [nI_1, nI_1]; exact this
      · rw [if_neg e, List.append_nil] at this
        rw [Int32.add_zero, nI_1]; exact this
theorem ok_line {M : Mm} (v : Int32) (h : Rel M) : okI (wX6_line v) (wX7_line v) M := by
  unfold okI wX6_line wX7_line
  obtain ⟨n, c, hn, hc, h14, h31, h23, h40, hq, hl, hp⟩ := Rel_q h
  refine isWithin_br (-1) 4 rfl rfl (fun a => within_n (-1) 4 rfl rfl a ⟨rfl, h⟩) (fun a => ?_)
  obtain ⟨l5, l24, l31⟩ := hl
  have hs : stan (ga M 50) c = stan (ga M 26) c := stan_congr (fun j hj => by rw [(hq j hj).1])
  have loop : ∀ (P : Int32 → Mm → Prop), (v = -1 → P (nI (stan (ga M 26) c).length) M) → (¬ v = -1 → ∀ i, i < 10 → v = nI i → (∀ x, (stan (ga M 26) c)[i]? = some x → P (nI x) M) ∧ ((stan (ga M 26) c)[i]? = none → P (-9) M)) → lX7_line_15 v P 0 0 M := by
    intro P p1 p2
    rw [show (0 : Int32) = nI 0 from rfl]
    refine up_loop (fun j (_ : Unit) => lX7_line_15 v P (nI (stan (ga M 50) j).length) (nI j) M) (fun j _ => ∀ i, i < 10 → v = nI i → (stan (ga M 50) j).length ≤ i) c ?_ ?_ 0 () (Nat.zero_le _) (fun i _ _ => Nat.zero_le _)
    · rintro _ hi
      refine lX7_line_15_mk _ _ _ _ _ (br_t (by rw [h40]; exact nI_le (Nat.le_refl _) (by omega)) (br_c (fun e => by rw [hs]; exact p1 e) (fun e => ?_)))
      have hv : 0 ≤ v.toInt := by
        have : ¬ v.toInt = -1 := fun z => e (Int32.toInt_inj.mp z)
        have := a.1
        omega
      obtain ⟨i, hi5, rfl⟩ := inI_nI (v := v) (hi := 4) (n := 4) ⟨hv, a.2⟩ rfl
      exact (p2 e i (by omega) rfl).2 (List.getElem?_eq_none (by rw [← hs]; exact hi i (by omega) rfl))
    · rintro j _ hj hi ih
      refine lX7_line_15_mk _ _ _ _ _ (br_f (by rw [h40]; exact nI_ge hj (by omega)) ⟨vp_in_nI (by omega) (by decide), ?_⟩)
      rw [nI_clamp (by omega)]
      have ih2 := ih ()
      rw [stan_succ] at ih2
      have hlj : (stan (ga M 50) j).length ≤ 40 := Nat.le_trans (stan_le _ _) (by omega)
      refine br_c (fun e => ?_) (fun e => ?_)
      · rw [if_pos e, List.length_append] at ih2
        refine br_c (fun z => ?_) (fun z => ?_)
        · have hne : ¬ v = -1 := by
            rw [← z]
            intro y
            have := congrArg Int32.toInt y
            rw [nI_toInt (by omega)] at this
            have h9 : ((-1 : Int32)).toInt = -1 := rfl
            rw [h9] at this
            omega
          refine (p2 hne _ ?_ z.symm).1 j ?_
          · have hv4 := a.2
            rw [← z, nI_toInt (by omega)] at hv4
            omega
          rw [← hs]
          refine stan_get (a := j + 1) (by omega) ?_
          rw [stan_succ, if_pos e]
          simp
        · rw [nI_1, nI_1]
          refine ih2 (fun i hi10 hvi => ?_)
          have := hi i hi10 hvi
          have hne : (stan (ga M 50) j).length ≠ i := fun y => z (by rw [hvi, y])
          show (stan (ga M 50) j).length + 1 ≤ i
          omega
      · rw [if_neg e, List.append_nil] at ih2
        rw [nI_1]
        exact ih2 hi
  refine br_c (fun e => ?_) (fun e => br_c (fun g => ?_) (fun g => ?_))
  · refine within_t (-1) 4 rfl rfl a (loop _ (fun _ => ⟨l24, h⟩) (fun z => absurd e z))
  · refine within_t (-1) 4 rfl rfl a (loop _ (fun z => absurd z e) (fun _ i _ hi => ⟨fun x hx => ?_, fun _ => ⟨rfl, h⟩⟩))
    have hlt := (List.getElem?_eq_some_iff.mp hx).1
    rw [l24, hi] at g
    exact absurd g (nI_ge hlt (by omega))
  · have hv : 0 ≤ v.toInt := by
      have : ¬ v.toInt = -1 := fun z => e (Int32.toInt_inj.mp z)
      have := a.1
      omega
    obtain ⟨i, hi5, rfl⟩ := inI_nI (v := v) (hi := 4) (n := 4) ⟨hv, a.2⟩ rfl
    refine at_in (n := 5) rfl (by decide) (by omega) (within_t (-1) 4 rfl rfl a (loop _ (fun z => absurd z e) (fun _ i' hi10 hi' => ?_)))
    have hii : i = i' := (nI_eq (by omega) (by omega)).mp hi'
    subst hii
    rw [l24] at g
    refine ⟨fun x hx => ⟨l31 i x hx, h⟩, fun hx => ?_⟩
    rw [List.getElem?_eq_none_iff] at hx
    exact absurd (nI_le hx (by omega)) g
