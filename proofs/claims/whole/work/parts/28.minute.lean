theorem nodup_take {l : List Nat} (hn : l.Nodup) : ∀ {j y : Nat}, l[j]? = some y → y ∉ l.take j := by
  induction l with
  | nil => intro j y h; simp at h
  | cons a l ih =>
    intro j y h
    rw [List.nodup_cons] at hn
    cases j with
    | zero => simp
    | succ j =>
      rw [List.getElem?_cons_succ] at h
      rw [List.take_succ_cons, List.mem_cons]
      rintro (e | e)
      · subst e; exact hn.1 (List.mem_of_getElem? h)
      · exact ih hn.2 h e
theorem take_mem {l : List Nat} {j y : Nat} (hy : l[j]? = some y) (x : Nat) : x ∈ l.take (j + 1) ↔ x ∈ l.take j ∨ x = y := by
  rw [List.take_succ, hy, List.mem_append]
  exact or_congr Iff.rfl (by simp [Option.toList])
theorem allWait_ok {M : Mm} {c : Nat} {Q : Mm → Prop} (hc : c ≤ 40) (hl : PL c M) (q : ∀ f, (∀ x, f x = if x ∈ stan (ga M 26) c then ga M 28 x + 1 else ga M 28 x) → Q (sa M 28 f)) : wX3_allWait Q M := by
  unfold wX3_allWait
  obtain ⟨l5, l24, l31⟩ := id hl
  rw [show (0 : Int32) = nI 0 from rfl]
  refine up_loop (fun j m => lX3_allWait_2 Q (nI j) m) (fun j m => ∃ f, m = sa M 28 f ∧ ∀ x, f x = if x ∈ (stan (ga M 26) c).take j then ga M 28 x + 1 else ga M 28 x) (stan (ga M 26) c).length ?_ ?_ 0 M (Nat.zero_le _) ⟨ga M 28, (sa_self _ 28).symm, fun x => by simp⟩
  · rintro m ⟨f, rfl, h1⟩
    refine lX3_allWait_2_mk _ _ _ (br_t ?_ (q f (fun x => by rw [h1 x, List.take_length])))
    show gi M 24 ≤ _
    rw [l24]; exact nI_le (Nat.le_refl _) (by omega)
  · rintro j m hj ⟨f, rfl, h1⟩ ih
    refine lX3_allWait_2_mk _ _ _ (br_f ?_ ?_)
    · show ¬ gi M 24 ≤ _
      rw [l24]; exact nI_ge hj (by omega)
    · have hy := List.getElem?_eq_getElem hj
      have hyc := (stan_mem.mp (List.mem_of_getElem? hy)).1
      have hnt := nodup_take (stan_nodup _ _) hy
      refine rowAt (M := sa M 28 f) (c := c) hl hy (at_in (n := 40) rfl (by decide) (by omega) (set_in (n := 40) rfl (by decide) (by omega) ?_))
      rw [sa_sa, ga_sa_eq, nI_1]
      refine ih _ ⟨_, rfl, fun x => ?_⟩
      have hm := take_mem hy x
      by_cases e : x = (stan (ga M 26) c)[j]
      · rw [if_pos (hm.mpr (Or.inr e)), e, pk_us, h1, if_neg hnt]
      · rw [pk_un e, h1]
        by_cases z : x ∈ List.take j (stan (ga M 26) c)
        · rw [if_pos z, if_pos (hm.mpr (Or.inl z))]
        · rw [if_neg z, if_neg (fun y => (hm.mp y).elim z e)]
/-- who is served next, by order and worths -/
def selS (o : Int32) (w : Nat → Int32) (b : Option Nat) (x : Nat) : Option Nat := match b with
  | none => some x
  | some y => if o = 1 ∨ (o = 2 ∧ ¬ w x ≤ w y) then some x else some y
theorem selS_t {o : Int32} {w : Nat → Int32} {x y : Nat} (g : o = 1 ∨ (o = 2 ∧ ¬ w x ≤ w y)) : selS o w (some y) x = some x := if_pos g
theorem selS_n {o : Int32} {w : Nat → Int32} {x y : Nat} (g : ¬ (o = 1 ∨ (o = 2 ∧ ¬ w x ≤ w y))) : selS o w (some y) x = some y := if_neg g
def selL (o : Int32) (w : Nat → Int32) (L : List Nat) : Option Nat := L.foldl (selS o w) none
theorem selL_snoc (o : Int32) (w : Nat → Int32) (L : List Nat) (x : Nat) : selL o w (L ++ [x]) = selS o w (selL o w L) x := by
  unfold selL
  rw [List.foldl_append]
  rfl
theorem sel_fold (o : Int32) (w : Nat → Int32) : ∀ (L : List Nat) (b : Option Nat), (b ≠ none ∨ L ≠ []) → ∃ y, L.foldl (selS o w) b = some y ∧ (y ∈ L ∨ b = some y) := by
  intro L
  induction L with
  | nil =>
    intro b h
    cases b with
    | none => rcases h with h | h <;> exact absurd rfl h
    | some y => exact ⟨y, rfl, Or.inr rfl⟩
  | cons x L ih =>
    intro b _
    have hs : ∃ z, selS o w b x = some z ∧ (z = x ∨ b = some z) := by
      cases b with
      | none => exact ⟨x, rfl, Or.inl rfl⟩
      | some y =>
        by_cases g : o = 1 ∨ (o = 2 ∧ ¬ w x ≤ w y)
        · exact ⟨x, selS_t g, Or.inl rfl⟩
        · exact ⟨y, selS_n g, Or.inr rfl⟩
    obtain ⟨z, h1, h2⟩ := hs
    rw [List.foldl_cons, h1]
    obtain ⟨y, h3, h4⟩ := ih (some z) (Or.inl (by simp))
    refine ⟨y, h3, ?_⟩
    rcases h4 with h4 | h4
    · exact Or.inl (List.mem_cons_of_mem _ h4)
    · cases h4
      rcases h2 with h2 | h2
      · subst h2; exact Or.inl List.mem_cons_self
      · exact Or.inr h2
theorem selL_some (o : Int32) (w : Nat → Int32) (L : List Nat) (h : L ≠ []) : ∃ y, selL o w L = some y ∧ y ∈ L := by
  obtain ⟨y, h1, h2⟩ := sel_fold o w L none (Or.inr h)
  rcases h2 with h2 | h2
  · exact ⟨y, h1, h2⟩
  · cases h2
theorem sel0 (w : Nat → Int32) : ∀ (L : List Nat) (y : Nat), L.foldl (selS 0 w) (some y) = some y := by
  intro L
  induction L with
  | nil => intro y; rfl
  | cons x L ih =>
    intro y
    rw [List.foldl_cons]
    have : selS 0 w (some y) x = some y := selS_n (fun q => q.elim (fun e => absurd e (by decide)) (fun e => absurd e.1 (by decide)))
    rw [this]
    exact ih y
def wsC (M : Mm) (x : Nat) : Int32 := ga M 14 (ga M 27 x).toNatClampNeg
def wsR (M : Mm) (x : Nat) : Int32 := ga M 37 (ga M 49 x).toNatClampNeg
theorem worthOf_ok {M : Mm} {c i x t : Nat} {Q : Int32 → Mm → Prop} (hc : c ≤ 40) (hl : PL c M) (hx : (stan (ga M 26) c)[i]? = some x) (ht : t < 3) (h27 : ga M 27 x = nI t) (q : Q (wsC M x) M) : wX3_worthOf (nI i) Q M := by
  unfold wX3_worthOf
  have hxc := (stan_mem.mp (List.mem_of_getElem? hx)).1
  refine rowAt hl hx (at_in (n := 40) rfl (by decide) (by omega) ?_)
  rw [h27]
  refine at_in (n := 3) rfl (by decide) ht ?_
  unfold wsC at q
  rw [h27, nI_clamp (by omega)] at q
  exact q
theorem nextBy_ok {M : Mm} {c : Nat} {o : Int32} {Q : Int32 → Mm → Prop} (hc : c ≤ 40) (hl : PL c M) (ho : o = 0 ∨ o = 1 ∨ o = 2) (hne : stan (ga M 26) c ≠ []) (hso : ∀ x, x < c → ∃ t, t < 3 ∧ ga M 27 x = nI t) (q : ∀ i x, (stan (ga M 26) c)[i]? = some x → selL o (wsC M) (stan (ga M 26) c) = some x → Q (nI i) M) : wX3_nextBy o Q M := by
  unfold wX3_nextBy
  obtain ⟨l5, l24, l31⟩ := id hl
  have hpos : 0 < (stan (ga M 26) c).length := List.length_pos_iff.mpr hne
  rcases ho with rfl | rfl | rfl
  · refine br_t rfl ?_
    obtain ⟨a, l, hL⟩ := List.exists_cons_of_ne_nil hne
    refine q 0 a (by rw [hL]; rfl) ?_
    rw [hL]
    unfold selL
    rw [List.foldl_cons]
    exact sel0 _ l a
  · refine br_f (by decide) (br_t rfl ?_)
    rw [l24, show (1 : Int32) = nI 1 from rfl, pk_sub (by omega)]
    have hg := List.getElem?_eq_getElem (l := stan (ga M 26) c) (i := (stan (ga M 26) c).length - 1) (by omega)
    refine q _ _ hg ?_
    have e : stan (ga M 26) c = (stan (ga M 26) c).take ((stan (ga M 26) c).length - 1) ++ [(stan (ga M 26) c)[(stan (ga M 26) c).length - 1]] := by
      have h1 := List.take_succ (l := stan (ga M 26) c) (i := (stan (ga M 26) c).length - 1)
      rw [hg, show (stan (ga M 26) c).length - 1 + 1 = (stan (ga M 26) c).length by omega, List.take_length] at h1
      exact h1
    generalize hxx : (stan (ga M 26) c)[(stan (ga M 26) c).length - 1] = xx at e ⊢
    rw [e, selL_snoc]
    cases selL 1 (wsC M) (List.take ((stan (ga M 26) c).length - 1) (stan (ga M 26) c)) with
    | none => rfl
    | some y => exact selS_t (Or.inl rfl)
  · refine br_f (by decide) (br_f (by decide) ?_)
    rw [show (0 : Int32) = nI 0 from rfl, show (1 : Int32) = nI 1 from rfl]
    refine up_loop (fun j (s : Nat) => lX3_nextBy_23 Q (nI s) (nI j) M) (fun j s => s < j ∧ ∃ x, (stan (ga M 26) c)[s]? = some x ∧ selL 2 (wsC M) ((stan (ga M 26) c).take j) = some x) (stan (ga M 26) c).length ?_ ?_ 1 0 (by omega) ⟨by decide, _, List.getElem?_eq_getElem hpos, ?_⟩
    · rintro s ⟨hs, x, h1, h2⟩
      refine lX3_nextBy_23_mk _ _ _ _ (br_t (by rw [l24]; exact nI_le (Nat.le_refl _) (by omega)) (q s x h1 ?_))
      rw [List.take_length] at h2
      exact h2
    · rintro j s hj ⟨hs, x, h1, h2⟩ ih
      refine lX3_nextBy_23_mk _ _ _ _ (br_f (by rw [l24]; exact nI_ge hj (by omega)) ?_)
      have hy := List.getElem?_eq_getElem hj
      obtain ⟨t1, ht1, e1⟩ := hso _ (stan_mem.mp (List.mem_of_getElem? hy)).1
      obtain ⟨t2, ht2, e2⟩ := hso _ (stan_mem.mp (List.mem_of_getElem? h1)).1
      have hst : selL 2 (wsC M) ((stan (ga M 26) c).take (j + 1)) = selS 2 (wsC M) (some x) (stan (ga M 26) c)[j] := by
        rw [List.take_succ, hy]
        show selL 2 (wsC M) (_ ++ [_]) = _
        rw [selL_snoc, h2]
      refine worthOf_ok hc hl hy ht1 e1 (worthOf_ok hc hl h1 ht2 e2 (br_c (fun g => ?_) (fun g => ?_)))
      · rw [nI_1]
        refine ih s ⟨by omega, x, h1, ?_⟩
        rw [hst]
        exact selS_n (fun q => q.elim (fun e => absurd e (by decide)) (fun e => e.2 g))
      · rw [nI_1]
        refine ih j ⟨by omega, _, hy, ?_⟩
        rw [hst]
        exact selS_t (Or.inr ⟨rfl, g⟩)
    · have : (stan (ga M 26) c).take 1 = [(stan (ga M 26) c)[0]] := by
        rw [List.take_succ, List.getElem?_eq_getElem hpos]
        rfl
      rw [this]
      rfl
def oNo (b : Option Nat) : Int32 := match b with
  | none => -9
  | some x => nI x
theorem oNo_ne {x : Nat} (h : x < 1000) : ¬ nI x = -9 := by
  intro z
  have := congrArg Int32.toInt z
  rw [nI_toInt (by omega)] at this
  have h9 : ((-9 : Int32)).toInt = -9 := rfl
  rw [h9] at this
  omega
theorem nextServed_ok {M : Mm} {c : Nat} {w : Nat → Int32} {Q : Int32 → Mm → Prop} (hw : ∀ x, x < c → wsR M x = w x) (hc : c ≤ 40) (h40 : gi M 40 = nI c) (ho : gi M 42 = 0 ∨ gi M 42 = 1 ∨ gi M 42 = 2) (hso : ∀ x, x < c → ∃ t, t < 3 ∧ ga M 49 x = nI t) (q : Q (oNo (selL (gi M 42) w (stan (ga M 50) c))) M) : wX7_nextServed Q M := by
  unfold wX7_nextServed
  rw [show (0 : Int32) = nI 0 from rfl]
  refine up_loop (fun j (_ : Unit) => lX7_nextServed_5 Q (oNo (selL (gi M 42) w (stan (ga M 50) j))) (nI j) M) (fun _ _ => True) c ?_ ?_ 0 () (Nat.zero_le _) trivial
  · rintro _ -
    exact lX7_nextServed_5_mk _ _ _ _ (br_t (by rw [h40]; exact nI_le (Nat.le_refl _) (by omega)) q)
  · rintro j _ hj - ih
    refine lX7_nextServed_5_mk _ _ _ _ (br_f (by rw [h40]; exact nI_ge hj (by omega)) ⟨vp_in_nI (by omega) (by decide), ?_⟩)
    have ih2 := ih () trivial
    rw [stan_succ] at ih2
    rw [nI_clamp (by omega), nI_1]
    refine br_c (fun e => ?_) (fun e => ?_)
    · rw [if_pos e, selL_snoc] at ih2
      by_cases hn : stan (ga M 50) j = []
      · rw [hn] at ih2 ⊢
        exact br_t rfl ih2
      · obtain ⟨y, h1, h2⟩ := selL_some (gi M 42) w _ hn
        have hyj := (stan_mem.mp h2).1
        rw [h1] at ih2 ⊢
        have hcy : (nI y).toNatClampNeg = y := nI_clamp (by omega)
        rw [show oNo (some y) = nI y from rfl, hcy]
        refine br_f (oNo_ne (by omega)) (br_c (fun g => ?_) (fun g => br_c (fun g2 => ?_) (fun g2 => ?_)))
        · have : selS (gi M 42) w (some y) j = some j := selS_t (Or.inl g)
          rw [this] at ih2; exact ih2
        · obtain ⟨t1, ht1, e1⟩ := hso j hj
          obtain ⟨t2, ht2, e2⟩ := hso y (by omega)
          refine ⟨vp_in_nI (by omega) (by decide), by rw [e1]; exact vp_in_nI ht1 (by decide), vp_in_nI (by omega) (by decide), by rw [e2]; exact vp_in_nI ht2 (by decide), ?_⟩
          refine br_c (fun z => ?_) (fun z => ?_)
          · have : selS (gi M 42) w (some y) j = some y := selS_n (fun q => q.elim g (fun q => q.2 (by rw [← hw j hj, ← hw y (by omega)]; exact z)))
            rw [this] at ih2; exact ih2
          · have : selS (gi M 42) w (some y) j = some j := selS_t (Or.inr ⟨g2, fun q => z (by rw [← hw j hj, ← hw y (by omega)] at q; exact q)⟩)
            rw [this] at ih2; exact ih2
        · have : selS (gi M 42) w (some y) j = some y := selS_n (fun q => q.elim g (fun q => g2 q.1))
          rw [this] at ih2; exact ih2
    · rw [if_neg e, List.append_nil] at ih2
      exact ih2
