theorem rowAt {M : Mm} {c i x : Nat} {Q : Int32 → Mm → Prop} (hl : PL c M) (hx : (stan (ga M 26) c)[i]? = some x) (q : Q (nI x) M) : wX6_at 31 (nI i) Q M := by
  have hi := (List.getElem?_eq_some_iff.mp hx).1
  have h5 := hl.1
  refine at_in (n := 5) rfl (by decide) (by omega) ?_
  rw [hl.2.2 i x hx]
  exact q
theorem placeOf_ok {M : Mm} {c x : Nat} {Q : Int32 → Mm → Prop} (hc : c ≤ 40) (hl : PL c M) (hx : x < c) (q1 : ∀ i, (stan (ga M 26) c)[i]? = some x → Q (nI i) M) (q2 : x ∉ stan (ga M 26) c → Q (-9) M) : wX3_placeOf (nI x) Q M := by
  unfold wX3_placeOf
  obtain ⟨l5, l24, l31⟩ := id hl
  rw [show (0 : Int32) = nI 0 from rfl]
  refine up_loop (fun j (_ : Unit) => lX3_placeOf_2 (nI x) Q (nI j) M) (fun j _ => ∀ i, i < j → (stan (ga M 26) c)[i]? ≠ some x) (stan (ga M 26) c).length ?_ ?_ 0 () (Nat.zero_le _) (fun i hi => absurd hi (Nat.not_lt_zero _))
  · rintro _ hi
    refine lX3_placeOf_2_mk _ _ _ _ (br_t (by rw [l24]; exact nI_le (Nat.le_refl _) (by omega)) (q2 (fun hm => ?_)))
    obtain ⟨i, h1⟩ := List.getElem?_of_mem hm
    exact hi i (List.getElem?_eq_some_iff.mp h1).1 h1
  · rintro j _ hj hi ih
    refine lX3_placeOf_2_mk _ _ _ _ (br_f (by rw [l24]; exact nI_ge hj (by omega)) ?_)
    have hy := List.getElem?_eq_getElem hj
    have hyc := (stan_mem.mp (List.mem_of_getElem? hy)).1
    refine rowAt hl hy (br_c (fun e => ?_) (fun e => ?_))
    · rw [nI_eq (by omega) (by omega)] at e
      exact q1 j (by rw [hy, e])
    · rw [nI_1]
      refine ih () (fun i hij => ?_)
      by_cases z : i = j
      · subst z
        rw [hy]
        intro y
        exact e (by rw [Option.some.inj y])
      · exact hi i (by omega)
theorem takeOut_ok {M : Mm} {c i : Nat} {Q : Mm → Prop} (hl : PL c M) (hi : i < (stan (ga M 26) c).length) (q : ∀ f, (∀ j y, ((stan (ga M 26) c).eraseIdx i)[j]? = some y → f j = nI y) → Q (si (sa M 31 f) 24 (nI ((stan (ga M 26) c).length - 1)))) : wX3_takeOut (nI i) Q M := by
  unfold wX3_takeOut
  obtain ⟨l5, l24, l31⟩ := id hl
  rw [nI_1]
  refine up_loop (fun j m => lX3_takeOut_4 Q (nI j) m) (fun j m => i < j ∧ ∃ f, m = sa M 31 f ∧ (∀ t, i ≤ t → t < j - 1 → f t = ga M 31 (t + 1)) ∧ ∀ t, (t < i ∨ j - 1 ≤ t) → f t = ga M 31 t) (stan (ga M 26) c).length ?_ ?_ (i + 1) M (by omega) ⟨by omega, ga M 31, (sa_self _ 31).symm, fun t h1 h2 => by omega, fun t _ => rfl⟩
  · rintro m ⟨-, f, rfl, h1, h2⟩
    refine lX3_takeOut_4_mk _ _ _ (br_t ?_ (nm_e ?_))
    · show gi M 24 ≤ _
      rw [l24]; exact nI_le (Nat.le_refl _) (by omega)
    · show Q (si (sa M 31 f) 24 (gi M 24 - 1))
      rw [l24, show (1 : Int32) = nI 1 from rfl, pk_sub (by omega)]
      refine q f (fun j y hy => ?_)
      rw [List.getElem?_eraseIdx] at hy
      split at hy
      · rename_i hji
        rw [h2 j (Or.inl hji)]; exact l31 j y hy
      · rename_i hji
        have := (List.getElem?_eq_some_iff.mp hy).1
        rw [h1 j (by omega) (by omega)]; exact l31 (j + 1) y hy
  · rintro j m hj ⟨hj1, f, rfl, h1, h2⟩ ih
    refine lX3_takeOut_4_mk _ _ _ (br_f ?_ ?_)
    · show ¬ gi M 24 ≤ _
      rw [l24]; exact nI_ge hj (by omega)
    · refine at_in (n := 5) rfl (by decide) (by omega) ?_
      rw [show (1 : Int32) = nI 1 from rfl, pk_sub (by omega)]
      refine set_in (n := 5) rfl (by decide) (by omega) ?_
      rw [sa_sa, ga_sa_eq, nI_add]
      refine ih _ ⟨by omega, _, rfl, fun t a1 a2 => ?_, fun t a1 => ?_⟩
      · by_cases e : t = j - 1
        · subst e
          rw [pk_us, h2 j (Or.inr (by omega))]
          congr 1
          omega
        · rw [pk_un e]; exact h1 t a1 (by omega)
      · rw [pk_un (by omega)]; exact h2 t (by omega)
/-- the line's own numbers, raw -/
theorem PL_go {M M2 : Mm} {c i x : Nat} {f : Nat → Int32} (hx : (stan (ga M 26) c)[i]? = some x) (h26 : ∀ j, j < c → j ≠ x → ga M2 26 j = ga M 26 j) (hv : ¬ ga M2 26 x = 1) (hl : PL c M) (h31 : ga M2 31 = f) (h24 : gi M2 24 = nI ((stan (ga M 26) c).length - 1)) (hf : ∀ j y, ((stan (ga M 26) c).eraseIdx i)[j]? = some y → f j = nI y) : PL c M2 := by
  have e := stan_go hx h26 hv
  have hi := (List.getElem?_eq_some_iff.mp hx).1
  have h5 := hl.1
  unfold PL
  rw [e, List.length_eraseIdx, if_pos hi]
  refine ⟨by omega, h24, fun j y hy => ?_⟩
  rw [h31]
  exact hf j y hy
theorem ok_leave {M : Mm} (v : Int32) (h : Rel M) : okI (wX6_leave v) (wX7_leave v) M := by
  unfold okI wX6_leave wX7_leave wX3_has
  obtain ⟨hO, hS, n, c, hn, h14, h31, ⟨hc, h23, h40, h41, hq, hl⟩, hp⟩ := id h
  refine has_br (cnt := gi M 23) h23 (by omega) (fun a => isComer_n h40 (by omega) a ⟨rfl, h⟩) (fun x hx e => ?_)
  subst e
  have hx40 : x < 40 := by omega
  have hcl : (nI x).toNatClampNeg = x := nI_clamp (by omega)
  have hv : vp_in (nI x) 40 := vp_in_nI hx40 (by decide)
  have h50 := (hq x hx).1
  refine placeOf_ok hc hl hx (fun i hi => ?_) (fun hi => ?_)
  · have hlen := (List.getElem?_eq_some_iff.mp hi).1
    have hk1 := (stan_mem.mp (List.mem_of_getElem? hi)).2
    have hne : ¬ nI i = -9 := by
      intro z
      have := congrArg Int32.toInt z
      rw [nI_toInt (by have := hl.1; omega)] at this
      have h9 : ((-9 : Int32)).toInt = -9 := rfl
      rw [h9] at this
      omega
    refine br_f hne (takeOut_ok hl hlen (fun f hf => set_in (n := 40) rfl (by decide) hx40 ?_))
    refine isComer_t h40 (by omega) hx ⟨hv, br_t ?_ ⟨hv, nm_e ?_⟩⟩
    · rw [hcl]; exact h50.trans hk1
    · rw [hcl]
      have kk : ∀ j, j < c → upd (ga M 50) x 0 j = upd (ga M 26) x 0 j := fun j hj => by
        by_cases e : j = x
        · subst e; rw [pk_us, pk_us]
        · rw [pk_un e, pk_un e]; exact (hq j hj).1
      have hst : stan (upd (ga M 26) x 0) c = (stan (ga M 26) c).eraseIdx i := stan_go hi (fun j _ e => pk_un e) (by rw [pk_us]; decide)
      refine standing_ok hc h40 ⟨?_, hO, hS, n, c, hn, h14, h31, ⟨hc, h23, h40, h41, fun j hj => ?_, ?_⟩, hp⟩
      · show nI ((stan (ga M 26) c).length - 1) = nI (stan (upd (ga M 50) x 0) c).length
        rw [stan_congr (k := upd (ga M 50) x 0) (k' := upd (ga M 26) x 0) (fun j hj => by rw [kk j hj]), hst, List.length_eraseIdx, if_pos hlen]
      · obtain ⟨a1, a2, a3⟩ := hq j hj
        refine ⟨kk j hj, ?_, a3⟩
        show upd (ga M 26) x 0 j = 0 ∨ upd (ga M 26) x 0 j = 1 ∨ upd (ga M 26) x 0 j = 2
        by_cases e : j = x
        · subst e; rw [pk_us]; exact Or.inl rfl
        · rw [pk_un e]; exact a2
      · exact PL_go hi (fun j _ e => pk_un e) (by show ¬ upd (ga M 26) x 0 x = 1; rw [pk_us]; decide) hl rfl rfl hf
  · have hk1 : ¬ ga M 50 x = 1 := by
      rw [h50]
      exact fun z => hi (stan_mem.mpr ⟨hx, z⟩)
    exact br_t rfl (isComer_t h40 (by omega) hx ⟨hv, br_f (by rw [hcl]; exact hk1) ⟨rfl, h⟩⟩)
