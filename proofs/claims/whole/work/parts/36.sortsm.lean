/-! the reference reads the sorts -/
def rsT (x : Int32) (Q : Int32 → Mm → Prop) (M : Mm) : Prop := wX7_readsNumber (1 : Int32) ((11 : Int32) - x) (fun r_4 M_4 => ((r_4 = (-9 : Int32) → (Q (0 : Int32) M_4)) ∧ (¬ r_4 = (-9 : Int32) → (wX7_readsLetter (118 : Int32) (fun r_6 M_6 => ((r_6 = 0 → (Q (0 : Int32) M_6)) ∧ (¬ r_6 = 0 → (wX7_readsNumber (0 : Int32) (999 : Int32) (fun r_8 M_8 => ((r_8 = (-9 : Int32) → (Q (0 : Int32) M_8)) ∧ (¬ r_8 = (-9 : Int32) → (vp_in (gi M_8 39) 3 ∧ (∀ M_10 : Mm, M_10 = (sa M_8 39 (upd (ga M_8 39) (gi M_8 39).toNatClampNeg r_4)) → (vp_in (gi M_10 39) 3 ∧ (∀ M_12 : Mm, M_12 = (sa M_10 40 (upd (ga M_10 40) (gi M_10 39).toNatClampNeg r_8)) → (∀ M_14 : Mm, M_14 = (si M_12 39 ((gi M_12 39) + (1 : Int32))) → (Q (1 : Int32) M_14))))))))) M_6)))) M_4)))) M
theorem sumM {M : Mm} {s : Nat} {T : Nat → Nat} {Q : Int32 → Mm → Prop} (hs : s ≤ 3) (h39 : gi M 39 = nI s) (hT : ∀ j, j < s → ga M 39 j = nI (T j)) (q : rsT (nI (sumTo T s)) Q M) : lX7_readsSort_15 Q 0 0 M := by
  rw [show (0 : Int32) = nI 0 from rfl]
  refine up_loop (fun j (_ : Unit) => lX7_readsSort_15 Q (nI (sumTo T j)) (nI j) M) (fun _ _ => True) s ?_ ?_ 0 () (Nat.zero_le _) trivial
  · rintro _ -
    exact lX7_readsSort_15_mk _ _ _ _ (br_t (by rw [h39]; exact nI_le (Nat.le_refl _) (by omega)) q)
  · rintro j _ hj - ih
    refine lX7_readsSort_15_mk _ _ _ _ (br_f (by rw [h39]; exact nI_ge hj (by omega)) ⟨vp_in_nI (by omega) (by decide), ?_⟩)
    rw [nI_clamp (by omega), hT j hj, nI_add, nI_1]
    exact ih () trivial
section SORTSM
variable {st N : Nat} {cd : Nat → Int32}
def DS (s : Nat) (T W : Nat → Nat) (M : Mm) : Prop := gi M 39 = nI s ∧ ∀ j, j < s → ga M 39 j = nI (T j) ∧ ga M 40 j = nI (W j)
def PMm (st : Nat) (r : RD) (Q : Int32 → Mm → Prop) (M : Mm) : Prop := ∀ M', RF M' M → gi M' 37 = gi M 37 → gi M' 38 = gi M 38 → gi M' 35 = nI (st + r.2.1) → (r.1 = true → gi M' 39 = nI r.2.2.1 ∧ ∀ j, j < r.2.2.1 → ga M' 39 j = nI (r.2.2.2.1 j) ∧ ga M' 40 j = nI (r.2.2.2.2 j)) → Q (if r.1 = true then 1 else 0) M'
theorem sortsM {Q : Int32 → Mm → Prop} : ∀ (f s nx left : Nat) (T W : Nat → Nat) (M : Mm), s + f = 3 → left + sumTo T s = 11 → nx ≤ N → CDm st N cd M → gi M 35 = nI (st + nx) → DS s T W M → PMm st (sortsP cd N f s nx left T W) Q M → lX7_readsAll_78 Q M := by
  intro f
  induction f with
  | zero =>
    intro s nx left T W M hs hl hn hc h5 hcs q
    have hb := hc.2.1
    have : s = 3 := by omega
    subst this
    refine lX7_readsAll_78_mk _ _ ?_
    unfold bX7_readsAll_78
    rw [h5, hc.1]
    have q := q M (rf_rf M) rfl rfl h5 (fun _ => ⟨hcs.1, hcs.2⟩)
    rw [sp_z] at q
    refine br_c (fun e => ?_) (fun e => ?_)
    · rw [nI_leI (by omega) (by omega)] at e
      rw [if_pos (by simp; omega)] at q
      exact q
    · rw [nI_leI (by omega) (by omega)] at e
      rw [if_neg (by simp; omega)] at q
      exact codeM_t hc h5 (by omega) (br_c (fun _ => br_t hcs.1 q) (fun _ => q))
  | succ f ih =>
    intro s nx left T W M hs hl hn hc h5 hcs q
    have hb := hc.2.1
    refine lX7_readsAll_78_mk _ _ ?_
    unfold bX7_readsAll_78
    rw [h5, hc.1]
    refine br_c (fun g => ?_) (fun g => ?_)
    · rw [nI_leI (by omega) (by omega)] at g
      rw [sp_1 (by omega)] at q
      exact q M (rf_rf M) rfl rfl h5 (fun _ => ⟨hcs.1, hcs.2⟩)
    · rw [nI_leI (by omega) (by omega)] at g
      have g : ¬ N ≤ nx := by omega
      refine codeM_t hc h5 (by omega) (br_c (fun h2 => br_f ?_ (nm_e ?_)) (fun z => ?_))
      · rw [hcs.1, show (3 : Int32) = nI 3 from rfl, nI_eq (by omega) (by decide)]; omega
      · rw [h5, show (1 : Int32) = nI 1 from rfl, nI_add, Nat.add_assoc]
        unfold wX7_readsSort
        by_cases h3 : isL cd N (nx + 1) 115
        · have h3' := h3.1
          refine readsM_t (nx := nx + 1) hc rfl h3 (br_f one_ne ?_)
          refine sumM (s := s) (T := T) (by omega) hcs.1 (fun j hj => (hcs.2 j hj).1) ?_
          unfold rsT
          have el : (11 : Int32) - nI (sumTo T s) = nI left := by
            rw [show (11 : Int32) = nI 11 from rfl, pk_sub (by omega)]
            congr 1
            omega
          rw [el]
          by_cases h4 : isN cd N (nx + 1 + 1) 1 left
          · have a1 := vN_of (by decide) h4.2
            refine numM_t (nx := nx + 1 + 1) 1 left rfl (nI_toInt (by omega)) hc rfl (by omega) h4 (br_f (by rw [a1.1]; exact oNo_ne (by omega)) ?_)
            by_cases h5' : isL cd N (dX cd N (nx + 1 + 1)) 118
            · have h5'' := h5'.1
              refine readsM_t (nx := dX cd N (nx + 1 + 1)) hc rfl h5' (br_f one_ne ?_)
              by_cases h6 : isN cd N (dX cd N (nx + 1 + 1) + 1) 0 999
              · have a2 := vN_of (n := 999) (by decide) h6.2
                refine numM_t (nx := dX cd N (nx + 1 + 1) + 1) 0 999 rfl rfl hc rfl (by omega) h6 (br_f (by rw [a2.1]; exact oNo_ne (by omega)) ?_)
                rw [sp_7 g h2 h3 h4 h5' h6] at q
                refine ⟨?_, nm_e ⟨?_, nm_e (nm_e (br_f one_ne ?_))⟩⟩
                · show vp_in (gi M 39) 3
                  rw [hcs.1]; exact vp_in_nI (by omega) (by decide)
                · show vp_in (gi M 39) 3
                  rw [hcs.1]; exact vp_in_nI (by omega) (by decide)
                · have e39 : (gi M 39).toNatClampNeg = s := by rw [hcs.1, nI_clamp (by omega)]
                  refine ih (s + 1) (dX cd N (dX cd N (nx + 1 + 1) + 1)) (left - vN (dV cd N (nx + 1 + 1))) (putN T s (vN (dV cd N (nx + 1 + 1)))) (putN W s (vN (dV cd N (dX cd N (nx + 1 + 1) + 1)))) _ (by omega) (by rw [sumTo_put]; omega) (digs_le (by omega)) hc rfl ⟨?_, fun j hj => ?_⟩ ?_
                  · show gi M 39 + 1 = _
                    rw [hcs.1, nI_1]
                  · show upd (ga M 39) (gi M 39).toNatClampNeg (dV cd N (nx + 1 + 1)) j = _ ∧ upd (ga M 40) (gi M 39).toNatClampNeg (dV cd N (dX cd N (nx + 1 + 1) + 1)) j = _
                    rw [e39]
                    by_cases e : j = s
                    · subst e; rw [pk_us, pk_us, putN_s, putN_s]; exact ⟨a1.1, a2.1⟩
                    · rw [pk_un e, pk_un e, putN_n e, putN_n e]; exact hcs.2 j (by omega)
                  · intro M' e1 e2 e3 e4 e5
                    exact q M' (rf_tr e1 (rf_si 39 _ (rf_sa 40 _ (rf_sa 39 _ (rf_si 35 _ (rf_si 35 _ (rf_si 35 _ (rf_si 35 _ (rf_si 35 _ (rf_rf M) rfl) rfl) rfl) rfl) rfl) rfl) rfl) rfl)) e2 e3 e4 e5
              · rw [sp_6 g h2 h3 h4 h5' h6] at q
                exact numM_n (nx := dX cd N (nx + 1 + 1) + 1) 0 999 rfl rfl hc rfl (by omega) h6 (br_t rfl (br_t rfl (q _ (rf_si 35 _ (rf_si 35 _ (rf_si 35 _ (rf_si 35 _ (rf_rf M) rfl) rfl) rfl) rfl) rfl rfl rfl (fun e => absurd e Bool.false_ne_true))))
            · rw [sp_5 g h2 h3 h4 h5'] at q
              exact readsM_n (nx := dX cd N (nx + 1 + 1)) hc rfl (digs_le (by omega)) (by decide) h5' (br_t rfl (br_t rfl (q _ (rf_si 35 _ (rf_si 35 _ (rf_si 35 _ (rf_rf M) rfl) rfl) rfl) rfl rfl rfl (fun e => absurd e Bool.false_ne_true))))
          · rw [sp_4 g h2 h3 h4] at q
            exact numM_n (nx := nx + 1 + 1) 1 left rfl (nI_toInt (by omega)) hc rfl (by omega) h4 (br_t rfl (br_t rfl (q _ (rf_si 35 _ (rf_si 35 _ (rf_rf M) rfl) rfl) rfl rfl rfl (fun e => absurd e Bool.false_ne_true))))
        · rw [sp_3 g h2 h3] at q
          exact readsM_n (nx := nx + 1) hc rfl (by omega) (by decide) h3 (br_t rfl (br_t rfl (q _ (rf_si 35 _ (rf_rf M) rfl) rfl rfl rfl (fun e => absurd e Bool.false_ne_true))))
      · rw [sp_2 g z] at q
        exact q M (rf_rf M) rfl rfl h5 (fun e => absurd e Bool.false_ne_true)
end SORTSM
