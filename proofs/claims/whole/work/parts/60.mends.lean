/-! the tolls that make the one the other -/
def allN (E : Nat → Bool) : Nat → Bool
  | 0 => true
  | n + 1 => allN E n && E n
theorem allN_n {E : Nat → Bool} {j : Nat} (h : E j = false) : ∀ {n}, j < n → allN E n = false
  | 0, g => absurd g (Nat.not_lt_zero _)
  | n + 1, g => by
    show (allN E n && E n) = false
    by_cases e : j = n
    · subst e; rw [h, Bool.and_false]
    · rw [allN_n h (n := n) (by omega), Bool.false_and]
def mdE (d : PD) (k s : Nat) : Bool := decide (hbU (cnU (nI (pW d s)) (nI k) (nI (pS d)) (nI (pC d))) 5 = bestOf d s)
def mdS (P : Nat → Bool) : Nat → Int32 × Int32 × Nat
  | 0 => (-9, -9, 0)
  | k + 1 => if P k = true then ((if (mdS P k).2.2 = 0 then nI k else (mdS P k).1), nI k, (mdS P k).2.2 + 1) else mdS P k
theorem md_inv (P : Nat → Bool) : ∀ k, k ≤ 1000 → (mdS P k).2.2 ≤ k ∧ ((mdS P k).1 = -9 ↔ (mdS P k).2.2 = 0)
  | 0, _ => ⟨Nat.le_refl _, ⟨fun _ => rfl, fun _ => rfl⟩⟩
  | k + 1, h => by
    obtain ⟨h1, h2⟩ := md_inv P k (by omega)
    show (if P k = true then ((if (mdS P k).2.2 = 0 then nI k else (mdS P k).1), nI k, (mdS P k).2.2 + 1) else mdS P k).2.2 ≤ k + 1 ∧ _
    by_cases c : P k = true
    · have e : mdS P (k + 1) = ((if (mdS P k).2.2 = 0 then nI k else (mdS P k).1), nI k, (mdS P k).2.2 + 1) := if_pos c
      rw [if_pos c, e]
      refine ⟨by show (mdS P k).2.2 + 1 ≤ k + 1; omega, ⟨fun z => ?_, fun z => ?_⟩⟩
      · have z : (if (mdS P k).2.2 = 0 then nI k else (mdS P k).1) = -9 := z
        by_cases y : (mdS P k).2.2 = 0
        · rw [if_pos y] at z
          have := congrArg Int32.toInt z
          rw [nI_toInt (by omega)] at this
          have e9 : (-9 : Int32).toInt = -9 := by decide
          omega
        · rw [if_neg y] at z
          exact absurd (h2.mp z) y
      · have z : (mdS P k).2.2 + 1 = 0 := z
        omega
    · have e : mdS P (k + 1) = mdS P k := if_neg c
      rw [if_neg c, e]
      exact ⟨by omega, h2⟩
theorem mendsAllC {M : Mm} {d : PD} {k : Nat} {Q : Int32 → Mm → Prop} (hd : PDok d) (hp : PH d M) (hb : ∀ s, s < pn d → ga M 25 s = nI (bestOf d s)) (q : Q (if allN (mdE d k) (pn d) = true then 1 else 0) M) : wX6_mendsAll (nI k) Q M := by
  have hn := hd.2.2.2.2.1
  obtain ⟨⟨h14, h31⟩, p11, p28, p12, p29, p13, p30, pr⟩ := hp
  unfold wX6_mendsAll
  rw [show (0 : Int32) = nI 0 from rfl]
  refine up_loop (fun j (_ : Unit) => lX6_mendsAll_2 (nI k) Q (nI j) M) (fun j _ => allN (mdE d k) j = true) (pn d) ?_ ?_ 0 () (Nat.zero_le _) rfl
  · rintro _ h
    rw [if_pos h] at q
    exact lX6_mendsAll_2_mk _ _ _ _ (br_t (by rw [h14]; exact nI_le (Nat.le_refl _) (by omega)) q)
  · rintro j _ hj h ih
    have hl := hbU_le (cnU (nI (pW d j)) (nI k) (nI (pS d)) (nI (pC d))) 5
    have hbl : bestOf d j ≤ 5 := rowD_le _ _ _
    refine lX6_mendsAll_2_mk _ _ _ _ (br_f (by rw [h14]; exact nI_ge hj (by omega)) (hbUnseen_ok (by omega) (at_in (n := 3) rfl (by decide) (by omega) ?_)))
    rw [(pr j hj).2.2.1, p12, p13, hb j hj, nI_eq (by omega) (by omega), nI_1]
    refine br_c (fun g => ih () ?_) (fun g => ?_)
    · show (allN (mdE d k) j && mdE d k j) = true
      rw [h, Bool.true_and]; exact decide_eq_true g
    · have e : allN (mdE d k) (pn d) = false := allN_n (decide_eq_false g) hj
      rw [e, if_neg (by decide)] at q
      exact q
def mdA (a : Int32) (x : Int32 × Int32 × Nat) : Int32 := if a = 0 then x.1 else if a = 1 then x.2.1 else nI x.2.2
theorem mendsC {M : Mm} {d : PD} {a : Int32} {Q : Int32 → Mm → Prop} (hd : PDok d) (hp : PH d M) (hb : ∀ s, s < pn d → ga M 25 s = nI (bestOf d s)) (q : Q (mdA a (mdS (fun k => allN (mdE d k) (pn d)) 1000)) M) : lX6_mends_48 a Q (-9) (-9) 0 0 M := by
  rw [show (0 : Int32) = nI 0 from rfl]
  refine up_loop (fun k (_ : Unit) => lX6_mends_48 a Q (mdS (fun k => allN (mdE d k) (pn d)) k).1 (mdS (fun k => allN (mdE d k) (pn d)) k).2.1 (nI (mdS (fun k => allN (mdE d k) (pn d)) k).2.2) (nI k) M) (fun _ _ => True) 1000 ?_ ?_ 0 () (Nat.zero_le _) trivial
  · rintro _ -
    refine lX6_mends_48_mk _ _ _ _ _ _ _ (br_t (by decide) ?_)
    unfold mdA at q
    refine br_c (fun z => ?_) (fun z => br_c (fun y => ?_) (fun y => ?_))
    · rw [if_pos z] at q; exact q
    · rw [if_neg z, if_pos y] at q; exact q
    · rw [if_neg z, if_neg y] at q; exact q
  · rintro k _ hk - ih
    have ih := ih () trivial
    have hi := md_inv (fun k => allN (mdE d k) (pn d)) k (by omega)
    refine lX6_mends_48_mk _ _ _ _ _ _ _ (br_f (nI_nlt (a := 999) (by omega) (by omega)) (mendsAllC hd hp hb ?_))
    by_cases c : allN (mdE d k) (pn d) = true
    · have e : mdS (fun k => allN (mdE d k) (pn d)) (k + 1) = ((if (mdS (fun k => allN (mdE d k) (pn d)) k).2.2 = 0 then nI k else (mdS (fun k => allN (mdE d k) (pn d)) k).1), nI k, (mdS (fun k => allN (mdE d k) (pn d)) k).2.2 + 1) := if_pos c
      rw [e] at ih
      rw [if_pos c, nI_1, nI_1, show (0 : Int32) = nI 0 from rfl, nI_eq (by omega) (by omega)]
      refine br_f (by decide) (br_c (fun z => ?_) (fun z => ?_))
      · simp only [if_pos z] at ih; exact ih
      · simp only [if_neg z] at ih; exact ih
    · have e : mdS (fun k => allN (mdE d k) (pn d)) (k + 1) = mdS (fun k => allN (mdE d k) (pn d)) k := if_neg c
      rw [e] at ih
      rw [if_neg c, nI_1]
      exact br_t rfl ih
theorem mendsM {M : Mm} {d : PD} {a : Int32} {Q : Int32 → Mm → Prop} (hd : PDok d) (hp : PH d M) (hb : ∀ s, s < pn d → ga M 48 s = nI (bestOf d s)) (q : Q (mdA a (mdS (fun k => allN (mdE d k) (pn d)) 1000)) M) : lX7_mends_38 a Q (-9) (-9) 0 0 M := by
  have hn := hd.2.2.2.2.1
  have hsd : 1 ≤ pS d ∧ pS d ≤ 11 := ⟨hd.1, hd.2.1⟩
  obtain ⟨⟨h14, h31⟩, p11, p28, p12, p29, p13, p30, pr⟩ := hp
  rw [show (0 : Int32) = nI 0 from rfl]
  refine up_loop (fun k (_ : Unit) => lX7_mends_38 a Q (mdS (fun k => allN (mdE d k) (pn d)) k).1 (mdS (fun k => allN (mdE d k) (pn d)) k).2.1 (nI (mdS (fun k => allN (mdE d k) (pn d)) k).2.2) (nI k) M) (fun _ _ => True) 1000 ?_ ?_ 0 () (Nat.zero_le _) trivial
  · rintro _ -
    refine lX7_mends_38_mk _ _ _ _ _ _ _ (br_t (by decide) ?_)
    unfold mdA at q
    refine br_c (fun z => ?_) (fun z => br_c (fun y => ?_) (fun y => ?_))
    · rw [if_pos z] at q; exact q
    · rw [if_neg z, if_pos y] at q; exact q
    · rw [if_neg z, if_neg y] at q; exact q
  · rintro k _ hk - ih
    have ih := ih () trivial
    have hi := md_inv (fun k => allN (mdE d k) (pn d)) k (by omega)
    refine lX7_mends_38_mk _ _ _ _ _ _ _ (br_f (nI_ge (b := 1000) hk (by omega)) ?_)
    generalize hst : mdS (fun k => allN (mdE d k) (pn d)) k = st at ih hi
    rw [show (1 : Int32) = (if allN (mdE d k) 0 = true then 1 else 0) from rfl, show (0 : Int32) = nI 0 from rfl]
    refine up_loop (fun j (_ : Unit) => lX7_mends_52 a st.1 st.2.1 (nI st.2.2) (nI k) Q (lX7_mends_38 a Q) (if allN (mdE d k) j = true then 1 else nI 0) (nI j) M) (fun _ _ => True) (pn d) ?_ ?_ 0 () (Nat.zero_le _) trivial
    · rintro _ -
      refine lX7_mends_52_mk _ _ _ _ _ _ _ _ _ _ (br_t (by rw [h31]; exact nI_le (Nat.le_refl _) (by omega)) ?_)
      by_cases c : allN (mdE d k) (pn d) = true
      · have e : mdS (fun k => allN (mdE d k) (pn d)) (k + 1) = ((if st.2.2 = 0 then nI k else st.1), nI k, st.2.2 + 1) := by rw [← hst]; exact if_pos c
        rw [e] at ih
        rw [if_pos c, nI_1, nI_1, hi.2]
        refine br_f (by decide) (br_c (fun z => ?_) (fun z => ?_))
        · simp only [if_pos z] at ih; exact ih
        · simp only [if_neg z] at ih; exact ih
      · have e : mdS (fun k => allN (mdE d k) (pn d)) (k + 1) = st := by rw [← hst]; exact if_neg c
        rw [e] at ih
        rw [if_neg c, nI_1]
        exact br_t rfl ih
    · rintro j _ hj - ih2
      have ih2 := ih2 () trivial
      have hl := hbU_le (cnU (nI (pW d j)) (nI k) (nI (pS d)) (nI (pC d))) 5
      have hbl : bestOf d j ≤ 5 := rowD_le _ _ _
      refine lX7_mends_52_mk _ _ _ _ _ _ _ _ _ _ (br_f (by rw [h31]; exact nI_ge hj (by omega)) ?_)
      refine hisBarM_ok (r' := 0) (by omega) p29 hsd (by decide) ⟨vp_in_nI (by omega) (by decide), ?_⟩
      rw [nI_clamp (by omega), (pr j hj).2.2.2, p29, p30, hb j hj, hbOf, if_pos nI_0, nI_eq (by omega) (by omega), nI_1]
      have e : allN (mdE d k) (j + 1) = (allN (mdE d k) j && mdE d k j) := rfl
      rw [e] at ih2
      refine br_c (fun g => ?_) (fun g => ?_)
      · rw [show mdE d k j = true from decide_eq_true g, Bool.and_true] at ih2
        have e1 : ((if allN (mdE d k) j = true then (1 : Int32) else nI 0) &&& (1 : Int32)) = (if allN (mdE d k) j = true then 1 else nI 0) := by
          by_cases c : allN (mdE d k) j = true
          · rw [if_pos c]; decide
          · rw [if_neg c]; decide
        rw [e1]; exact ih2
      · rw [show mdE d k j = false from decide_eq_false g, Bool.and_false] at ih2
        have e1 : ((if allN (mdE d k) j = true then (1 : Int32) else nI 0) &&& (0 : Int32)) = nI 0 := by
          by_cases c : allN (mdE d k) j = true
          · rw [if_pos c]; decide
          · rw [if_neg c]; decide
        rw [e1]
        rw [if_neg (by decide)] at ih2; exact ih2
theorem ok_mends {M : Mm} (a : Int32) (h : Rel M) : okI (wX6_mends a) (wX7_mends a) M := by
  unfold okI wX6_mends wX7_mends
  refine isWithin_br 0 2 rfl rfl (fun c => within_n 0 2 rfl rfl c ⟨rfl, h⟩) (fun c => ?_)
  obtain ⟨hO, hS, n, k, hn, h14, h31, hQ, hP⟩ := id h
  rcases told_cases hP with ⟨h0, h1, h2⟩ | ⟨h1, h2, d, hd, hdn, hp, hba, hb, hg⟩
  · exact br_t h1 (within_t 0 2 rfl rfl c (br_t h2 ⟨rfl, h⟩))
  subst hdn
  have hph : PH d M := ⟨⟨h14, h31⟩, hp⟩
  refine br_f (by rw [h1]; decide) (knowBestC hd hph hg (fun M1 f1 g1 g2 => ?_))
  have hp1 := PH_fb f1 hph
  refine mendsC hd hp1 g2 (within_t 0 2 rfl rfl c (br_f (by rw [hp1.2.2.1]; decide) (findBestM hd hp1 (fun M2 f2 g3 => ?_))))
  have hp2 := PH_fb (fb_fr f2) hp1
  refine mendsM hd hp2 g3 ⟨rfl, ?_⟩
  refine Rel_fb (fb_tr (fb_fr f2) f1) hO hS hn h14 h31 hQ hd rfl hp hba hb (Or.inr ⟨?_, fun s hs => ?_⟩)
  · rw [f2.1 22 (by decide)]; exact g1
  · rw [f2.2 25 (by decide) (by decide)]; exact g2 s hs
