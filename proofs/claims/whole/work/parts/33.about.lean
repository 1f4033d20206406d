/-! about, ofSort, bar -/
theorem together_ok {M : Mm} {n : Nat} {T : Nat → Nat} {Q : Int32 → Mm → Prop} (hn : n ≤ 3) (h14 : gi M 14 = nI n) (hT : ∀ s, s < n → ga M 13 s = nI (T s)) (q : Q (nI (sumTo T n)) M) : wX2_twelfthsTogether Q M := by
  unfold wX2_twelfthsTogether
  rw [show (0 : Int32) = nI 0 from rfl]
  refine up_loop (fun j (_ : Unit) => lX2_twelfthsTogether_4 Q (nI (sumTo T j)) (nI j) M) (fun _ _ => True) n ?_ ?_ 0 () (Nat.zero_le _) trivial
  · rintro _ -
    exact lX2_twelfthsTogether_4_mk _ _ _ _ (br_t (by rw [h14]; exact nI_le (Nat.le_refl _) (by omega)) q)
  · rintro j _ hj - ih
    refine lX2_twelfthsTogether_4_mk _ _ _ _ (br_f (by rw [h14]; exact nI_ge hj (by omega)) (at_in (n := 3) rfl (by decide) (by omega) ?_))
    rw [hT j hj, nI_add, nI_1]
    exact ih () trivial
theorem allTw_ok {M : Mm} {n : Nat} {T : Nat → Nat} {Q : Int32 → Mm → Prop} (hn : n ≤ 3) (h31 : gi M 31 = nI n) (hT : ∀ s, s < n → ga M 36 s = nI (T s)) (q : Q (nI (sumTo T n)) M) : wX7_allTwelfths Q M := by
  unfold wX7_allTwelfths
  rw [show (0 : Int32) = nI 0 from rfl]
  refine up_loop (fun j (_ : Unit) => lX7_allTwelfths_4 Q (nI (sumTo T j)) (nI j) M) (fun _ _ => True) n ?_ ?_ 0 () (Nat.zero_le _) trivial
  · rintro _ -
    exact lX7_allTwelfths_4_mk _ _ _ _ (br_t (by rw [h31]; exact nI_le (Nat.le_refl _) (by omega)) q)
  · rintro j _ hj - ih
    refine lX7_allTwelfths_4_mk _ _ _ _ (br_f (by rw [h31]; exact nI_ge hj (by omega)) ⟨vp_in_nI (by omega) (by decide), ?_⟩)
    rw [nI_clamp (by omega), hT j hj, nI_add, nI_1]
    exact ih () trivial
theorem ok_about {M : Mm} (v : Int32) (h : Rel M) : okI (wX6_about v) (wX7_about v) M := by
  unfold okI wX6_about wX7_about
  refine isWithin_br 0 5 rfl rfl (fun c => within_n 0 5 rfl rfl c ⟨rfl, h⟩) (fun c => ?_)
  obtain ⟨hO, hS, n, k, hn, h14, h31, hQ, hP⟩ := id h
  rcases told_cases hP with ⟨h0, h1, h2⟩ | ⟨h1, h2, d, hd, hdn, hp, hba, hb, hg⟩
  · exact br_t h1 (within_t 0 5 rfl rfl c (br_t h2 ⟨rfl, h⟩))
  have hT : ∀ s, s < n → ga M 13 s = nI (pT d s) := fun s hs => (hp.2.2.2.2.2.2 s (by omega)).1
  have hT' : ∀ s, s < n → ga M 36 s = nI (pT d s) := fun s hs => (hp.2.2.2.2.2.2 s (by omega)).2.1
  refine br_f (by rw [h1]; decide) ?_
  have hw : ∀ {A B : Prop}, B → ((gi M 28 = 0 → A) ∧ (¬ gi M 28 = 0 → B)) := fun b => br_f (by rw [h2]; decide) b
  refine br_c (fun e => ?_) (fun e0 => br_c (fun e => ?_) (fun e1 => br_c (fun e => ?_) (fun e2 => br_c (fun e => ?_) (fun e3 => br_c (fun e => ?_) (fun e4 => ?_)))))
  · exact within_t 0 5 rfl rfl c (hw (br_t e ⟨hp.2.2.1.trans hp.2.2.2.1.symm, h⟩))
  · exact within_t 0 5 rfl rfl c (hw (br_f e0 (br_t e ⟨hp.2.2.2.2.1.trans hp.2.2.2.2.2.1.symm, h⟩)))
  · exact together_ok hn h14 hT (within_t 0 5 rfl rfl c (hw (br_f e0 (br_f e1 (br_t e (allTw_ok hn h31 hT' ⟨rfl, h⟩))))))
  · exact within_t 0 5 rfl rfl c (hw (br_f e0 (br_f e1 (br_f e2 (br_t e ⟨hb.2.1.symm, h⟩)))))
  · exact within_t 0 5 rfl rfl c (hw (br_f e0 (br_f e1 (br_f e2 (br_f e3 (br_t e ⟨hb.2.2.2.1.symm, h⟩))))))
  · exact within_t 0 5 rfl rfl c (hw (br_f e0 (br_f e1 (br_f e2 (br_f e3 (br_f e4 ⟨hb.2.2.2.2.2.symm, h⟩))))))
def hbU (P : Nat → Bool) : Nat → Nat
  | 0 => 0
  | n + 1 => if P (n + 1) = true then n + 1 else hbU P n
theorem hbU_le (P : Nat → Bool) : ∀ n, hbU P n ≤ n
  | 0 => Nat.le_refl _
  | n + 1 => by
    unfold hbU
    split
    · exact Nat.le_refl _
    · exact Nat.le_trans (hbU_le P n) (Nat.le_succ n)
def mnv (S r l x : Int32) : Int32 := if (0 : Int32) < r * (((12 : Int32) * x + S * r - 1) / (S * r)) + l then r * (((12 : Int32) * x + S * r - 1) / (S * r)) + l else 0
def cnU (w fee S C : Int32) (n : Nat) : Bool := !decide ((w - fee) * S < C * (12 : Int32) * nI n)
def cnT (w fee S C r l : Int32) (n : Nat) : Bool := !decide (w - fee < C * mnv S r l (nI n))
def hbOf (w fee S C r l : Int32) : Nat := if r = 0 then hbU (cnU w fee S C) 5 else hbU (cnT w fee S C r l) 5
theorem hbOf_le (w fee S C r l : Int32) : hbOf w fee S C r l ≤ 5 := by
  unfold hbOf
  split
  · exact hbU_le _ _
  · exact hbU_le _ _
theorem hb_t {P : Nat → Bool} {n : Nat} (h : P (n + 1) = true) : hbU P (n + 1) = n + 1 := if_pos h
theorem hb_n {P : Nat → Bool} {n : Nat} (h : ¬ P (n + 1) = true) : hbU P (n + 1) = hbU P n := if_neg h
theorem cnU_t {w fee S C : Int32} {n : Nat} (h : ¬ (w - fee) * S < C * (12 : Int32) * nI n) : cnU w fee S C n = true := by simp [cnU, h]
theorem cnU_n {w fee S C : Int32} {n : Nat} (h : (w - fee) * S < C * (12 : Int32) * nI n) : ¬ cnU w fee S C n = true := by simp [cnU, h]
theorem cnT_t {w fee S C r l : Int32} {n : Nat} (h : ¬ w - fee < C * mnv S r l (nI n)) : cnT w fee S C r l n = true := by simp [cnT, h]
theorem cnT_n {w fee S C r l : Int32} {n : Nat} (h : w - fee < C * mnv S r l (nI n)) : ¬ cnT w fee S C r l n = true := by simp [cnT, h]
theorem hbUnseen_ok {M : Mm} {s : Nat} {fee : Int32} {Q : Int32 → Mm → Prop} (hs : s < 3) (q : Q (nI (hbU (cnU (ga M 14 s) fee (gi M 12) (gi M 13)) 5)) M) : wX2_hisBarUnseen (nI s) fee Q M := by
  unfold wX2_hisBarUnseen
  rw [show (5 : Int32) = nI 5 from rfl]
  refine down_loop (fun j (_ : Unit) => j ≤ 5 → Q (nI (hbU (cnU (ga M 14 s) fee (gi M 12) (gi M 13)) j)) M → lX2_hisBarUnseen_2 (nI s) fee Q (nI j) M) (fun _ _ => True) ?_ ?_ 5 () trivial (by decide) q
  · rintro _ - - q
    exact lX2_hisBarUnseen_2_mk _ _ _ _ _ (br_t (by decide) q)
  · rintro j _ - ih hj q
    refine lX2_hisBarUnseen_2_mk _ _ _ _ _ (br_f (nI_nle (by omega) (by omega)) (at_in (n := 3) rfl (by decide) hs (br_c (fun g => ?_) (fun g => ?_))))
    · rw [pk_m1]
      rw [hb_n (cnU_n g)] at q
      exact ih () trivial (by omega) q
    · rw [hb_t (cnU_t g)] at q
      exact q
theorem mAT_ok {M : Mm} {j s' r' : Nat} {Q : Int32 → Mm → Prop} (h12 : gi M 12 = nI s') (h16 : gi M 16 = nI r') (hs : 1 ≤ s' ∧ s' ≤ 11) (hr : 1 ≤ r' ∧ r' ≤ 20) (q : Q (mnv (gi M 12) (gi M 16) (gi M 17) (nI (j + 1))) M) : wX2_minutesAsTold (nI j) Q M := by
  have hb : s' * r' ≤ 11 * 20 := Nat.mul_le_mul hs.2 hr.2
  have hp : 0 < s' * r' := Nat.mul_pos (by omega) (by omega)
  unfold wX2_minutesAsTold
  refine br_t (by rw [h12]; exact nI_le (a := 1) hs.1 (by omega)) (br_t (by rw [h16]; exact nI_le (a := 1) hr.1 (by omega)) (br_t (by rw [h12, h16, pk_mul]; exact nI_le (a := 1) hp (by omega)) ⟨by rw [h12, h16, pk_mul]; exact nI_ne0 hp (by omega), ?_⟩))
  rw [nI_1]
  exact q
theorem told_ok {M : Mm} {j s' r' : Nat} {l : Int32} {Q : Int32 → Mm → Prop} (h29 : gi M 29 = nI s') (hs : 1 ≤ s' ∧ s' ≤ 11) (hr : 1 ≤ r' ∧ r' ≤ 20) (q : Q (mnv (gi M 29) (nI r') l (nI j)) M) : wX7_toldMinutes (nI j) (nI r') l Q M := by
  have hb : s' * r' ≤ 11 * 20 := Nat.mul_le_mul hs.2 hr.2
  have hp : 0 < s' * r' := Nat.mul_pos (by omega) (by omega)
  unfold wX7_toldMinutes
  refine ⟨by rw [h29, pk_mul]; exact nI_ne0 hp (by omega), ?_⟩
  unfold mnv at q
  rw [Int32.mul_comm (nI r')] at q
  refine br_c (fun g => ?_) (fun g => ?_)
  · by_cases e : 0 < ((12 : Int32) * nI j + gi M 29 * nI r' - 1) / (gi M 29 * nI r') * nI r' + l
    · rw [if_pos e] at q; exact q
    · rw [if_neg e] at q
      have : ((12 : Int32) * nI j + gi M 29 * nI r' - 1) / (gi M 29 * nI r') * nI r' + l = 0 := by
        rw [i_lt] at e
        rw [i_le] at g
        apply Int32.toInt_inj.mp
        have z : (0 : Int32).toInt = 0 := rfl
        omega
      rw [this]; exact q
  · rw [if_neg (fun e => g (by rw [i_lt] at e; rw [i_le]; omega))] at q
    exact q
theorem hisBarC_ok {M : Mm} {s s' r' : Nat} {Q : Int32 → Mm → Prop} (hs3 : s < 3) (h12 : gi M 12 = nI s') (h16 : gi M 16 = nI r') (hs : 1 ≤ s' ∧ s' ≤ 11) (hr : r' ≤ 20) (q : Q (nI (hbOf (ga M 14 s) (gi M 15) (gi M 12) (gi M 13) (gi M 16) (gi M 17))) M) : wX2_hisBar (nI s) Q M := by
  unfold wX2_hisBar
  refine br_c (fun e => ?_) (fun e => ?_)
  · rw [hbOf, if_pos e] at q
    exact hbUnseen_ok hs3 q
  · rw [hbOf, if_neg e] at q
    have hr1 : 1 ≤ r' := by
      rcases Nat.eq_zero_or_pos r' with z | z
      · exact absurd (by rw [h16, z]; rfl) e
      · exact z
    rw [show (5 : Int32) = nI 5 from rfl]
    refine down_loop (fun j (_ : Unit) => j ≤ 5 → Q (nI (hbU (cnT (ga M 14 s) (gi M 15) (gi M 12) (gi M 13) (gi M 16) (gi M 17)) j)) M → lX2_hisBar_19 (nI s) Q (nI j) M) (fun _ _ => True) ?_ ?_ 5 () trivial (by decide) q
    · rintro _ - - q
      exact lX2_hisBar_19_mk _ _ _ _ (br_t (by decide) q)
    · rintro j _ - ih hj q
      refine lX2_hisBar_19_mk _ _ _ _ (br_f (nI_nle (by omega) (by omega)) (at_in (n := 3) rfl (by decide) hs3 ?_))
      rw [nI_pred]
      refine mAT_ok h12 h16 hs ⟨hr1, hr⟩ (br_c (fun g => ?_) (fun g => ?_))
      · rw [pk_m1]
        rw [hb_n (cnT_n g)] at q
        exact ih () trivial (by omega) q
      · rw [hb_t (cnT_t g)] at q
        exact q
theorem hisBarM_ok {M : Mm} {s s' r' : Nat} {fee l : Int32} {Q : Int32 → Mm → Prop} (hs3 : s < 3) (h29 : gi M 29 = nI s') (hs : 1 ≤ s' ∧ s' ≤ 11) (hr : r' ≤ 20) (q : Q (nI (hbOf (ga M 37 s) fee (gi M 29) (gi M 30) (nI r') l)) M) : wX7_hisBar (nI s) fee (nI r') l Q M := by
  have hcl : (nI s).toNatClampNeg = s := nI_clamp (by omega)
  unfold wX7_hisBar
  rw [show (0 : Int32) = nI 0 from rfl, show (1 : Int32) = nI (0 + 1) from rfl]
  rcases Nat.eq_zero_or_pos r' with z | z
  · subst z
    rw [hbOf, if_pos nI_0] at q
    refine up_loop (fun j (_ : Unit) => lX7_hisBar_6 (nI s) fee (nI 0) l Q (nI (hbU (cnU (ga M 37 s) fee (gi M 29) (gi M 30)) j)) (nI (j + 1)) M) (fun _ _ => True) 5 ?_ ?_ 0 () (Nat.zero_le _) trivial
    · rintro _ -
      exact lX7_hisBar_6_mk _ _ _ _ _ _ _ _ (br_t (by decide) q)
    · rintro j _ hj - ih
      have ih := ih () trivial
      refine lX7_hisBar_6_mk _ _ _ _ _ _ _ _ (br_f (nI_nlt (a := 5) (b := j + 1) (by omega) (by omega)) ⟨vp_in_nI hs3 (by decide), br_t (by decide) ?_⟩)
      rw [hcl, nI_1]
      refine br_c (fun g => ?_) (fun g => ?_)
      · rw [hb_n (cnU_n g)] at ih
        exact ih
      · rw [hb_t (cnU_t g)] at ih
        exact ih
  · have hz : ¬ nI r' = 0 := nI_ne0 z (by omega)
    rw [hbOf, if_neg hz] at q
    refine up_loop (fun j (_ : Unit) => lX7_hisBar_6 (nI s) fee (nI r') l Q (nI (hbU (cnT (ga M 37 s) fee (gi M 29) (gi M 30) (nI r') l) j)) (nI (j + 1)) M) (fun _ _ => True) 5 ?_ ?_ 0 () (Nat.zero_le _) trivial
    · rintro _ -
      exact lX7_hisBar_6_mk _ _ _ _ _ _ _ _ (br_t (by decide) q)
    · rintro j _ hj - ih
      have ih := ih () trivial
      refine lX7_hisBar_6_mk _ _ _ _ _ _ _ _ (br_f (nI_nlt (a := 5) (b := j + 1) (by omega) (by omega)) ⟨vp_in_nI hs3 (by decide), br_f (nI_nle z (by omega)) ?_⟩)
      rw [hcl]
      refine told_ok h29 hs ⟨z, hr⟩ ?_
      rw [nI_1]
      refine br_c (fun g => ?_) (fun g => ?_)
      · rw [hb_n (cnT_n g)] at ih
        exact ih
      · rw [hb_t (cnT_t g)] at ih
        exact ih
theorem step_nat {M : Mm} (hb : PB M) : ∃ r', r' ≤ 20 ∧ gi M 16 = nI r' := inI_nI hb.2.2.1 (n := 20) rfl
theorem ok_ofSort {M : Mm} (v w : Int32) (h : Rel M) : okI (wX6_ofSort v w) (wX7_ofSort v w) M := by
  unfold okI wX6_ofSort wX7_ofSort wX2_has
  obtain ⟨hO, hS, n, k, hn, h14, h31, hQ, hP⟩ := id h
  refine has_br (cnt := gi M 14) h14 (by omega) (fun a => isSort_n h31 (by omega) a ⟨rfl, h⟩) (fun j hj e => ?_)
  subst e
  have hcl : (nI j).toNatClampNeg = j := nI_clamp (by omega)
  have hv : vp_in (nI j) 3 := vp_in_nI (by omega) (by decide)
  rcases told_cases hP with ⟨h0, h1, h2⟩ | ⟨h1, h2, d, hd, hdn, hp, ⟨b, hba⟩, hb, hg⟩
  · omega
  have hpj := hp.2.2.2.2.2.2 j (by omega)
  obtain ⟨r', hr, hr'⟩ := step_nat hb
  have hsd : 1 ≤ pS d ∧ pS d ≤ 11 := ⟨hd.1, hd.2.1⟩
  have go : ∀ {A B : Int32 → Mm → Prop}, B 1 M → wX7_isSort (nI j) (fun r M => (r = 0 → A r M) ∧ (¬ r = 0 → B r M)) M := fun b => isSort_t h31 (by omega) hj b
  refine br_c (fun e => ?_) (fun e0 => br_c (fun e => ?_) (fun e1 => br_c (fun e => ?_) (fun e2 => br_c (fun e => ?_) (fun e3 => ?_))))
  · refine at_in (n := 3) rfl (by decide) (by omega) (go (br_t e ⟨hv, ?_⟩))
    rw [hcl]
    exact ⟨hpj.1.trans hpj.2.1.symm, h⟩
  · refine at_in (n := 3) rfl (by decide) (by omega) (go (br_f e0 (br_t e ⟨hv, ?_⟩)))
    rw [hcl]
    exact ⟨hpj.2.2.1.trans hpj.2.2.2.symm, h⟩
  · refine at_in (n := 3) rfl (by decide) (by omega) (go (br_f e0 (br_f e1 (br_t e ⟨hv, ?_⟩))))
    rw [hcl]
    exact ⟨(hba j hj).2.1.trans (hba j hj).2.2.symm, h⟩
  · refine hisBarC_ok (by omega) hp.2.2.1 hr' hsd hr (go (br_f e0 (br_f e1 (br_f e2 (br_t e ?_)))))
    rw [hb.2.2.2.1, hr']
    refine hisBarM_ok (by omega) hp.2.2.2.1 hsd hr ⟨?_, h⟩
    rw [hpj.2.2.1, hpj.2.2.2, hp.2.2.1, hp.2.2.2.1, hp.2.2.2.2.1, hp.2.2.2.2.2.1, hb.2.1, hb.2.2.2.2.2]
  · exact go (br_f e0 (br_f e1 (br_f e2 (br_f e3 ⟨rfl, h⟩))))
theorem ok_bar {M : Mm} (v w : Int32) (h : Rel M) : okI (wX6_bar v w) (wX7_bar v w) M := by
  unfold okI wX6_bar wX7_bar wX2_has
  obtain ⟨hO, hS, n, k, hn, h14, h31, hQ, hP⟩ := id h
  refine has_br (cnt := gi M 14) h14 (by omega) (fun a => isSort_n h31 (by omega) a ⟨rfl, h⟩) (fun j hj e => ?_)
  subst e
  have hcl : (nI j).toNatClampNeg = j := nI_clamp (by omega)
  have hv : vp_in (nI j) 3 := vp_in_nI (by omega) (by decide)
  rcases told_cases hP with ⟨h0, h1, h2⟩ | ⟨h1, h2, d, hd, hdn, hp, ⟨b, hba⟩, hb, hg⟩
  · omega
  refine isWithin_br 0 5 rfl rfl (fun a => isSort_t h31 (by omega) hj (within_n 0 5 rfl rfl a ⟨rfl, h⟩)) (fun a => ?_)
  obtain ⟨t, ht, rfl⟩ := inI_nI a (n := 5) rfl
  refine at_in (n := 3) rfl (by decide) (by omega) (set_in (n := 3) rfl (by decide) (by omega) (isSort_t h31 (by omega) hj (within_t 0 5 rfl rfl a ⟨hv, hv, nm_e ?_⟩)))
  rw [hcl]
  refine ⟨(hba j hj).2.1.trans (hba j hj).2.2.symm, hO, hS, n, k, hn, h14, h31, hQ, Or.inr ⟨d, hd, hdn, hp, ⟨fun s => if s = j then t else b s, fun s hs => ?_⟩, hb, hg⟩⟩
  by_cases e : s = j
  · subst e
    exact ⟨by simp; exact ht, by show upd (ga M 15) s (nI t) s = _; rw [pk_us]; exact (congrArg nI (if_pos rfl)).symm, by show upd (ga M 38) s (nI t) s = _; rw [pk_us]; exact (congrArg nI (if_pos rfl)).symm⟩
  · exact ⟨by simp [e]; exact (hba s hs).1, by show upd (ga M 15) j (nI t) s = _; rw [pk_un e, (hba s hs).2.1]; exact (congrArg nI (if_neg e)).symm, by show upd (ga M 38) j (nI t) s = _; rw [pk_un e, (hba s hs).2.2]; exact (congrArg nI (if_neg e)).symm⟩
