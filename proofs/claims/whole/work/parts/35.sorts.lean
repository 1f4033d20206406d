/-! reading a text: the sorts -/
abbrev RD : Type := Bool × Nat × Nat × (Nat → Nat) × (Nat → Nat)
def putN (T : Nat → Nat) (s t : Nat) : Nat → Nat := fun j => if j = s then t else T j
def vN (x : Int32) : Nat := x.toInt.toNat
def sortsP (cd : Nat → Int32) (N : Nat) : Nat → Nat → Nat → Nat → (Nat → Nat) → (Nat → Nat) → RD
  | 0, s, nx, _, T, W => (decide (N ≤ nx), nx, s, T, W)
  | f + 1, s, nx, left, T, W =>
    if N ≤ nx then (true, nx, s, T, W) else
    if cd nx = 59 then
      if isL cd N (nx + 1) 115 then
        if isN cd N (nx + 1 + 1) 1 left then
          if isL cd N (dX cd N (nx + 1 + 1)) 118 then
            if isN cd N (dX cd N (nx + 1 + 1) + 1) 0 999 then
              sortsP cd N f (s + 1) (dX cd N (dX cd N (nx + 1 + 1) + 1)) (left - vN (dV cd N (nx + 1 + 1))) (putN T s (vN (dV cd N (nx + 1 + 1)))) (putN W s (vN (dV cd N (dX cd N (nx + 1 + 1) + 1))))
            else (false, dX cd N (nx + 1 + 1) + 1, s, T, W)
          else (false, dX cd N (nx + 1 + 1), s, T, W)
        else (false, nx + 1 + 1, s, T, W)
      else (false, nx + 1, s, T, W)
    else (false, nx, s, T, W)
section EQS
variable {cd : Nat → Int32} {N f s nx left : Nat} {T W : Nat → Nat}
theorem sp_z : sortsP cd N 0 s nx left T W = (decide (N ≤ nx), nx, s, T, W) := rfl
theorem sp_1 (h : N ≤ nx) : sortsP cd N (f + 1) s nx left T W = (true, nx, s, T, W) := if_pos h
theorem sp_2 (h : ¬ N ≤ nx) (h2 : ¬ cd nx = 59) : sortsP cd N (f + 1) s nx left T W = (false, nx, s, T, W) := (if_neg h).trans (if_neg h2)
theorem sp_3 (h : ¬ N ≤ nx) (h2 : cd nx = 59) (h3 : ¬ isL cd N (nx + 1) 115) : sortsP cd N (f + 1) s nx left T W = (false, nx + 1, s, T, W) := (if_neg h).trans ((if_pos h2).trans (if_neg h3))
theorem sp_4 (h : ¬ N ≤ nx) (h2 : cd nx = 59) (h3 : isL cd N (nx + 1) 115) (h4 : ¬ isN cd N (nx + 1 + 1) 1 left) : sortsP cd N (f + 1) s nx left T W = (false, nx + 1 + 1, s, T, W) := (if_neg h).trans ((if_pos h2).trans ((if_pos h3).trans (if_neg h4)))
theorem sp_5 (h : ¬ N ≤ nx) (h2 : cd nx = 59) (h3 : isL cd N (nx + 1) 115) (h4 : isN cd N (nx + 1 + 1) 1 left) (h5 : ¬ isL cd N (dX cd N (nx + 1 + 1)) 118) : sortsP cd N (f + 1) s nx left T W = (false, dX cd N (nx + 1 + 1), s, T, W) := (if_neg h).trans ((if_pos h2).trans ((if_pos h3).trans ((if_pos h4).trans (if_neg h5))))
theorem sp_6 (h : ¬ N ≤ nx) (h2 : cd nx = 59) (h3 : isL cd N (nx + 1) 115) (h4 : isN cd N (nx + 1 + 1) 1 left) (h5 : isL cd N (dX cd N (nx + 1 + 1)) 118) (h6 : ¬ isN cd N (dX cd N (nx + 1 + 1) + 1) 0 999) : sortsP cd N (f + 1) s nx left T W = (false, dX cd N (nx + 1 + 1) + 1, s, T, W) := (if_neg h).trans ((if_pos h2).trans ((if_pos h3).trans ((if_pos h4).trans ((if_pos h5).trans (if_neg h6)))))
theorem sp_7 (h : ¬ N ≤ nx) (h2 : cd nx = 59) (h3 : isL cd N (nx + 1) 115) (h4 : isN cd N (nx + 1 + 1) 1 left) (h5 : isL cd N (dX cd N (nx + 1 + 1)) 118) (h6 : isN cd N (dX cd N (nx + 1 + 1) + 1) 0 999) : sortsP cd N (f + 1) s nx left T W = sortsP cd N f (s + 1) (dX cd N (dX cd N (nx + 1 + 1) + 1)) (left - vN (dV cd N (nx + 1 + 1))) (putN T s (vN (dV cd N (nx + 1 + 1)))) (putN W s (vN (dV cd N (dX cd N (nx + 1 + 1) + 1)))) := (if_neg h).trans ((if_pos h2).trans ((if_pos h3).trans ((if_pos h4).trans ((if_pos h5).trans (if_pos h6)))))
end EQS
theorem vN_of {v : Int32} {l : Int} {n : Nat} (hl : 0 ≤ l) (h : inI v l n) : v = nI (vN v) ∧ l ≤ (vN v : Int) ∧ vN v ≤ n := by
  obtain ⟨h1, h2⟩ := h
  have ht := Int32.toInt_lt v
  have e : ((vN v : Nat) : Int) = v.toInt := by unfold vN; omega
  refine ⟨?_, by omega, by omega⟩
  apply Int32.toInt_inj.mp
  rw [nI_toInt (by omega), e]
theorem putN_s (T : Nat → Nat) (s t : Nat) : putN T s t s = t := if_pos rfl
theorem putN_n {T : Nat → Nat} {s t j : Nat} (h : j ≠ s) : putN T s t j = T j := if_neg h
theorem sumTo_congr {f g : Nat → Nat} : ∀ n, (∀ j, j < n → f j = g j) → sumTo f n = sumTo g n
  | 0, _ => rfl
  | n + 1, h => by
    show sumTo f n + f n = sumTo g n + g n
    rw [sumTo_congr n (fun j hj => h j (by omega)), h n (by omega)]
theorem sumTo_put (T : Nat → Nat) (s t : Nat) : sumTo (putN T s t) (s + 1) = sumTo T s + t := by
  show sumTo (putN T s t) s + putN T s t s = _
  rw [putN_s, sumTo_congr s (fun j hj => putN_n (by omega))]
/-- what the texts that are taken tell -/
theorem sortsP_ok {cd : Nat → Int32} {N : Nat} : ∀ (f s nx left : Nat) (T W : Nat → Nat), s + f = 3 → left + sumTo T s = 11 → (∀ j, j < s → 1 ≤ T j ∧ W j ≤ 999) → nx ≤ N →
    (sortsP cd N f s nx left T W).2.1 ≤ N ∧ (sortsP cd N f s nx left T W).2.2.1 ≤ 3 ∧ sumTo (sortsP cd N f s nx left T W).2.2.2.1 (sortsP cd N f s nx left T W).2.2.1 ≤ 11 ∧ ∀ j, j < (sortsP cd N f s nx left T W).2.2.1 → 1 ≤ (sortsP cd N f s nx left T W).2.2.2.1 j ∧ (sortsP cd N f s nx left T W).2.2.2.2 j ≤ 999 := by
  intro f
  induction f with
  | zero =>
    intro s nx left T W hs hl hj hn
    exact ⟨hn, by show s ≤ 3; omega, by show sumTo T s ≤ 11; omega, hj⟩
  | succ f ih =>
    intro s nx left T W hs hl hj hn
    have base : ∀ (ok : Bool) (x : Nat), x ≤ N → ((ok, x, s, T, W) : RD).2.1 ≤ N ∧ ((ok, x, s, T, W) : RD).2.2.1 ≤ 3 ∧ sumTo ((ok, x, s, T, W) : RD).2.2.2.1 ((ok, x, s, T, W) : RD).2.2.1 ≤ 11 ∧ ∀ j, j < ((ok, x, s, T, W) : RD).2.2.1 → 1 ≤ ((ok, x, s, T, W) : RD).2.2.2.1 j ∧ ((ok, x, s, T, W) : RD).2.2.2.2 j ≤ 999 := fun ok x hx => ⟨hx, by show s ≤ 3; omega, by show sumTo T s ≤ 11; omega, hj⟩
    by_cases h : N ≤ nx
    · rw [sp_1 h]; exact base _ _ hn
    by_cases h2 : cd nx = 59
    · by_cases h3 : isL cd N (nx + 1) 115
      · have h3' := h3.1
        by_cases h4 : isN cd N (nx + 1 + 1) 1 left
        · have l4 : dX cd N (nx + 1 + 1) ≤ N := digs_le (by omega)
          by_cases h5 : isL cd N (dX cd N (nx + 1 + 1)) 118
          · have h5' := h5.1
            by_cases h6 : isN cd N (dX cd N (nx + 1 + 1) + 1) 0 999
            · rw [sp_7 h h2 h3 h4 h5 h6]
              have a1 := vN_of (by decide) h4.2
              have a2 := vN_of (n := 999) (by decide) h6.2
              refine ih (s + 1) _ _ _ _ (by omega) ?_ (fun j hj' => ?_) (digs_le (by omega))
              · rw [sumTo_put]; omega
              · by_cases e : j = s
                · subst e; rw [putN_s, putN_s]; exact ⟨by omega, a2.2.2⟩
                · rw [putN_n e, putN_n e]; exact hj j (by omega)
            · rw [sp_6 h h2 h3 h4 h5 h6]; exact base _ _ (by omega)
          · rw [sp_5 h h2 h3 h4 h5]; exact base _ _ l4
        · rw [sp_4 h h2 h3 h4]; exact base _ _ (by omega)
      · rw [sp_3 h h2 h3]; exact base _ _ (by omega)
    · rw [sp_2 h h2]; exact base _ _ hn
section SORTS
variable {st N : Nat} {cd : Nat → Int32}
/-- the class's readings so far -/
def CS (s left : Nat) (T W : Nat → Nat) (M : Mm) : Prop := gi M 9 = nI s ∧ gi M 10 = nI left ∧ ∀ j, j < s → ga M 11 j = nI (T j) ∧ ga M 12 j = nI (W j)
def PC (r : RD) (Q : Int32 → Mm → Prop) (M : Mm) : Prop := ∀ M', RF M' M → gi M' 7 = gi M 7 → gi M' 8 = gi M 8 → gi M' 5 = nI r.2.1 → (r.1 = true → gi M' 9 = nI r.2.2.1 ∧ ∀ j, j < r.2.2.1 → ga M' 11 j = nI (r.2.2.2.1 j) ∧ ga M' 12 j = nI (r.2.2.2.2 j)) → Q (if r.1 = true then 1 else 0) M'
theorem sortsC {Q : Int32 → Mm → Prop} : ∀ (f s nx left : Nat) (T W : Nat → Nat) (M : Mm), s + f = 3 → left ≤ 11 → nx ≤ N → CDc st N cd M → gi M 5 = nI nx → CS s left T W M → PC (sortsP cd N f s nx left T W) Q M → lX5_isTaken_104 Q (nI s) M := by
  intro f
  induction f with
  | zero =>
    intro s nx left T W M hs hl hn hc h5 hcs q
    have hb := hc.2.2.1
    have : s = 3 := by omega
    subst this
    refine lX5_isTaken_104_mk _ _ _ (br_t (by decide) ?_)
    rw [h5, hc.2.1]
    refine br_c (fun e => ?_) (fun e => ?_)
    · rw [nI_eq (by omega) (by omega)] at e
      have := q M (rf_rf M) rfl rfl h5 (fun _ => ⟨hcs.1, hcs.2.2⟩)
      rw [sp_z, if_pos (by simp; omega)] at this
      exact this
    · rw [nI_eq (by omega) (by omega)] at e
      have := q M (rf_rf M) rfl rfl h5 (fun _ => ⟨hcs.1, hcs.2.2⟩)
      rw [sp_z, if_neg (by simp; omega)] at this
      exact this
  | succ f ih =>
    intro s nx left T W M hs hl hn hc h5 hcs q
    have hb := hc.2.2.1
    refine lX5_isTaken_104_mk _ _ _ (br_f (nI_ge (b := 3) (by omega) (by decide)) ?_)
    rw [h5, hc.2.1]
    refine br_c (fun g => ?_) (fun g => ?_)
    · rw [nI_leI (by omega) (by omega)] at g
      refine br_t (by rw [nI_eq (by omega) (by omega)]; omega) ?_
      rw [sp_1 g] at q
      exact q M (rf_rf M) rfl rfl h5 (fun _ => ⟨hcs.1, hcs.2.2⟩)
    · rw [nI_leI (by omega) (by omega)] at g
      refine takesC hc h5 hn (fun z => br_f one_ne ?_) (fun z => br_t rfl ?_)
      · have h2 := z.2
        unfold wX5_takesSort
        refine takesC (nx := nx + 1) hc rfl (by omega) (fun h3 => br_f one_ne ?_) (fun h3 => br_t rfl (br_t rfl ?_))
        · have h3' := h3.1
          refine numC (nx := nx + 1 + 1) 1 left rfl (by show (gi M 10).toInt = _; rw [hcs.2.1, nI_toInt (by omega)]) hc rfl (by omega) (fun h4 => br_f one_ne (nm_e ?_)) (fun h4 x => br_t rfl (br_t rfl ?_))
          · have a1 := vN_of (by decide) h4.2
            refine set_in (n := 3) rfl (by decide) (by omega) ?_
            refine takesC (nx := dX cd N (nx + 1 + 1)) hc rfl (digs_le (by omega)) (fun h5' => br_f one_ne ?_) (fun h5' => br_t rfl (br_t rfl ?_))
            · have h5'' := h5'.1
              refine numC (nx := dX cd N (nx + 1 + 1) + 1) 0 999 rfl rfl hc rfl (by omega) (fun h6 => br_f one_ne ?_) (fun h6 x => br_t rfl (br_t rfl ?_))
              · have a2 := vN_of (n := 999) (by decide) h6.2
                refine set_in (n := 3) rfl (by decide) (by omega) (nm_e (br_f one_ne ?_))
                rw [sp_7 g h2 h3 h4 h5' h6] at q
                rw [nI_1]
                refine ih (s + 1) (dX cd N (dX cd N (nx + 1 + 1) + 1)) (left - vN (dV cd N (nx + 1 + 1))) (putN T s (vN (dV cd N (nx + 1 + 1)))) (putN W s (vN (dV cd N (dX cd N (nx + 1 + 1) + 1)))) _ (by omega) (by omega) (digs_le (by omega)) hc rfl ⟨rfl, ?_, fun j hj => ?_⟩ ?_
                · show gi M 10 - dV cd N (nx + 1 + 1) = _
                  have e := a1.1
                  rw [hcs.2.1]
                  refine (congrArg (fun z => nI left - z) e).trans ?_
                  exact pk_sub a1.2.2
                · show upd (ga M 11) s (dV cd N (nx + 1 + 1)) j = _ ∧ upd (ga M 12) s (dV cd N (dX cd N (nx + 1 + 1) + 1)) j = _
                  by_cases e : j = s
                  · subst e; rw [pk_us, pk_us, putN_s, putN_s]; exact ⟨a1.1, a2.1⟩
                  · rw [pk_un e, pk_un e, putN_n e, putN_n e]; exact hcs.2.2 j (by omega)
                · intro M' e1 e2 e3 e4 e5
                  exact q M' (rf_tr e1 (rf_si 9 _ (rf_sa 12 _ (rf_si 5 _ (rf_si 6 _ (rf_si 5 _ (rf_sa 11 _ (rf_si 10 _ (rf_si 5 _ (rf_si 6 _ (rf_si 5 _ (rf_si 5 _ (rf_rf M) rfl) rfl) rfl) rfl) rfl) rfl) rfl) rfl) rfl) rfl) rfl)) e2 e3 e4 e5
              · rw [sp_6 g h2 h3 h4 h5' h6] at q
                exact q _ (rf_si 5 _ (rf_si 6 _ (rf_si 5 _ (rf_sa 11 _ (rf_si 10 _ (rf_si 5 _ (rf_si 6 _ (rf_si 5 _ (rf_si 5 _ (rf_rf M) rfl) rfl) rfl) rfl) rfl) rfl) rfl) rfl) rfl) rfl rfl rfl (fun e => absurd e Bool.false_ne_true)
            · rw [sp_5 g h2 h3 h4 h5'] at q
              exact q _ (rf_sa 11 _ (rf_si 10 _ (rf_si 5 _ (rf_si 6 _ (rf_si 5 _ (rf_si 5 _ (rf_rf M) rfl) rfl) rfl) rfl) rfl) rfl) rfl rfl rfl (fun e => absurd e Bool.false_ne_true)
          · rw [sp_4 g h2 h3 h4] at q
            exact q _ (rf_si 5 _ (rf_si 6 _ (rf_si 5 _ (rf_si 5 _ (rf_rf M) rfl) rfl) rfl) rfl) rfl rfl rfl (fun e => absurd e Bool.false_ne_true)
        · rw [sp_3 g h2 h3] at q
          exact q _ (rf_si 5 _ (rf_rf M) rfl) rfl rfl rfl (fun e => absurd e Bool.false_ne_true)
      · rw [sp_2 g (fun e => z ⟨by omega, e⟩)] at q
        exact q M (rf_rf M) rfl rfl h5 (fun e => absurd e Bool.false_ne_true)
end SORTS
