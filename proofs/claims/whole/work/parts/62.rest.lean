/-! the shares of those who come to rest -/
def metB (S : Nat) (w : Nat → Int) (j : Nat) : Int := sumI (foundI S w) j
def stoB (S : Nat) (w : Nat → Int) (j : Nat) : Int := sumI (fun n => ((n : Int) + 1) * foundI S w n) j
def payB (S C W : Nat) (w : Nat → Int) : Bool := !decide (((W * S : Nat) : Int) * metB S w 4 < ((C * 12 : Nat) : Int) * stoB S w 4)
theorem bs_rg {S k T : Nat} {w : Nat → Int} (hS : 1 ≤ S ∧ S ≤ 11) (h : LB S k T w) : 0 < metB S w 4 ∧ metB S w 4 ≤ 534966026907000 ∧ 0 ≤ stoB S w 4 ∧ stoB S w 4 ≤ 2139864107628000 := by
  have e : ∀ i, foundI S w i = (if i = 0 then 12 else 12 - (S : Int)) * w i + (S : Int) * w (i + 1) := fun _ => rfl
  have h0 := h.2.1 0
  have h1 := h.2.1 1
  have h2 := h.2.1 2
  have h3 := h.2.1 3
  have h4 := h.2.1 4
  have hp := h.2.2.1
  have m : ∀ i, 0 ≤ (S : Int) * w i ∧ (S : Int) * w i ≤ 12 * w i := fun i => by
    have := h.2.1 i
    exact ⟨Int.mul_nonneg (by omega) this.1, Int.mul_le_mul_of_nonneg_right (by omega) this.1⟩
  have m1 := m 1
  have m2 := m 2
  have m3 := m 3
  have m4 := m 4
  have f0 : foundI S w 0 = 12 * w 0 + (S : Int) * w 1 := rfl
  have f1 : foundI S w 1 = 12 * w 1 - (S : Int) * w 1 + (S : Int) * w 2 := by rw [e, if_neg (by decide), Int.sub_mul]
  have f2 : foundI S w 2 = 12 * w 2 - (S : Int) * w 2 + (S : Int) * w 3 := by rw [e, if_neg (by decide), Int.sub_mul]
  have f3 : foundI S w 3 = 12 * w 3 - (S : Int) * w 3 + (S : Int) * w 4 := by rw [e, if_neg (by decide), Int.sub_mul]
  have em : metB S w 4 = 0 + foundI S w 0 + foundI S w 1 + foundI S w 2 + foundI S w 3 := rfl
  have es : stoB S w 4 = 0 + (((0 : Nat) : Int) + 1) * foundI S w 0 + (((1 : Nat) : Int) + 1) * foundI S w 1 + (((2 : Nat) : Int) + 1) * foundI S w 2 + (((3 : Nat) : Int) + 1) * foundI S w 3 := rfl
  rw [em, es, f0, f1, f2, f3]
  generalize (S : Int) * w 1 = a1 at *
  generalize (S : Int) * w 2 = a2 at *
  generalize (S : Int) * w 3 = a3 at *
  generalize (S : Int) * w 4 = a4 at *
  refine ⟨by omega, by omega, by omega, by omega⟩
theorem metB_sc {S : Nat} {W w : Nat → Int} {D : Int} (h : ∀ i, W i = D * w i) : metB S W 4 = D * metB S w 4 ∧ stoB S W 4 = D * stoB S w 4 := by
  refine ⟨?_, ?_⟩
  · unfold metB
    rw [← sumI_mul]; exact sumI_congr _ (fun i _ => foundI_sc h i)
  · unfold stoB
    rw [← sumI_mul]
    refine sumI_congr _ (fun i _ => ?_)
    show _ = D * _
    rw [foundI_sc h i, Int.mul_left_comm]
theorem lt_sc {D x y : Int} (hD : 0 < D) : D * x < D * y ↔ x < y := ⟨fun h => Int.lt_of_mul_lt_mul_left h (by omega), fun h => Int.mul_lt_mul_of_pos_left h hD⟩
theorem payB_sc {S C W k T : Nat} {w : Nat → Int} (h : LB S k T w) : payB S C W (wB S k T) = payB S C W w := by
  obtain ⟨⟨D, hD, hw⟩, -⟩ := h
  have hs := metB_sc (S := S) hw
  unfold payB
  rw [hs.1, hs.2, Int.mul_left_comm, Int.mul_left_comm _ D]
  congr 1
  exact decide_eq_decide.mpr (lt_sc hD)
theorem paysC {M : Mm} {d : PD} {k : Nat} {Q : Int32 → Mm → Prop} (hd : PDok d) (h1 : pn d = 1) (hk : k ≤ 12) (hp : PH d M) (q : ∀ M', FR M' M → Q (if payB (pS d) (pC d) (pW d 0) (wB (pS d) k (pT d 0)) = true then 1 else 0) M') : wX6_paysBlind (nI k) Q M := by
  have hT := one_sort hd h1
  have hSd : 1 ≤ pS d ∧ pS d ≤ 11 := ⟨hd.1, hd.2.1⟩
  have hC := hd.2.2.2.1
  obtain ⟨⟨h14, h31⟩, p11, p28, p12, p29, p13, p30, pr⟩ := hp
  have pr0 := pr 0 (by omega)
  unfold wX6_paysBlind
  refine comeBC hSd hk hT.1 p12 pr0.1 (fun M1 w f1 hl h18 ht hw => ?_)
  have q := q M1 f1
  rw [payB_sc hl] at q
  rw [show (0 : Int64) = jZ 0 from rfl, show (0 : Int32) = nI 0 from rfl]
  refine up_loop (fun j (_ : Unit) => lX6_paysBlind_20 Q (jZ (metB (pS d) w j)) (jZ (stoB (pS d) w j)) (nI j) M1) (fun _ _ => True) 4 ?_ ?_ 0 () (Nat.zero_le _) trivial
  · rintro _ -
    refine lX6_paysBlind_20_mk _ _ _ _ _ (br_t (by decide) ?_)
    rw [show (0 : Int32) = nI 0 from rfl]
    refine at_in (n := 3) rfl (by decide) (by decide) ?_
    have hb := bs_rg hSd hl
    have hWS : pW d 0 * pS d ≤ 999 * 11 := Nat.mul_le_mul hT.2 hSd.2
    have eW : (ga M1 14 0 * gi M1 12).toInt64 = jZ ((pW d 0 * pS d : Nat) : Int) := by
      rw [f1.2 14 (by decide) (by decide), pr0.2.2.1, f1.1 12 (by decide), p12, pk_mul, nI_l (by omega), jZ_N]
    have eC : (gi M1 13 * (12 : Int32)).toInt64 = jZ ((pC d * 12 : Nat) : Int) := by
      rw [f1.1 13 (by decide), p13, show (12 : Int32) = nI 12 from rfl, pk_mul, nI_l (by omega), jZ_N]
    rw [eW, eC, jZ_mul, jZ_mul]
    have a1 : ((pW d 0 * pS d : Nat) : Int) * metB (pS d) w 4 ≤ 10989 * 534966026907000 := Int.mul_le_mul (by omega) hb.2.1 (by omega) (by decide)
    have a2 : 0 ≤ ((pW d 0 * pS d : Nat) : Int) * metB (pS d) w 4 := Int.mul_nonneg (by omega) (by omega)
    have a3 : ((pC d * 12 : Nat) : Int) * stoB (pS d) w 4 ≤ 108 * 2139864107628000 := Int.mul_le_mul (by omega) hb.2.2.2 (by omega) (by decide)
    have a4 : 0 ≤ ((pC d * 12 : Nat) : Int) * stoB (pS d) w 4 := Int.mul_nonneg (by omega) (by omega)
    rw [jZ_lt ⟨by omega, by omega⟩ ⟨by omega, by omega⟩]
    unfold payB at q
    refine br_c (fun g => ?_) (fun g => ?_)
    · rw [decide_eq_true g, if_neg (by decide)] at q; exact q
    · rw [decide_eq_false g, if_pos (by decide)] at q; exact q
  · rintro j _ hj - ih
    refine lX6_paysBlind_20_mk _ _ _ _ _ (br_f (nI_ge (b := 4) hj (by omega)) (foundC (o := 0) (by decide) hSd.2 (by omega) h18 hw hl.2.2.2.1 (foundC (o := 0) (by decide) hSd.2 (by omega) h18 hw hl.2.2.2.1 ?_)))
    rw [nI_1, nI_l (by omega), jZ_N, jZ_mul, jZ_add, jZ_add]
    exact ih () trivial
def restP (d : PD) (k : Nat) : Bool := payB (pS d) (pC d) (pW d 0) (wB (pS d) k (pT d 0))
theorem restC {M : Mm} {d : PD} {Q : Int32 → Mm → Prop} (hd : PDok d) (h1 : pn d = 1) (hp : PH d M) (q : ∀ M', FR M' M → Q (nI (hbU (restP d) 12)) M') : lX6_rest_17 Q (nI 12) M := by
  refine down_loop (fun j (m : Mm) => j ≤ 12 → (∀ M', FR M' M → Q (nI (hbU (restP d) j)) M') → lX6_rest_17 Q (nI j) m) (fun j m => FR m M) ?_ ?_ 12 M (fr_rf M) (by decide) q
  · rintro m h - q
    exact lX6_rest_17_mk _ _ _ (br_t (by decide) (q m h))
  · rintro j m h ih hj q
    refine lX6_rest_17_mk _ _ _ (br_f (nI_nle (by omega) (by omega)) (paysC hd h1 hj (PH_fb (fb_fr h) hp) (fun m2 f2 => ?_)))
    have g := fr_tr f2 h
    by_cases c : restP d (j + 1) = true
    · rw [hb_t c] at q
      rw [if_pos (show payB (pS d) (pC d) (pW d 0) (wB (pS d) (j + 1) (pT d 0)) = true from c)]
      exact br_f (by decide) (q m2 g)
    · rw [hb_n c] at q
      rw [if_neg (show ¬ payB (pS d) (pC d) (pW d 0) (wB (pS d) (j + 1) (pT d 0)) = true from c), pk_m1]
      exact br_t rfl (ih m2 g (by omega) q)
theorem sg_lt0 {z : Int} : sgI z < (0 : Int32) ↔ z < 0 := by
  rcases Int.lt_trichotomy z 0 with h | h | h
  · rw [sg_m h]
    exact ⟨fun _ => h, fun _ => by decide⟩
  · rw [sg_0 h]
    exact ⟨fun q => absurd q (by decide), fun q => by omega⟩
  · rw [sg_p h]
    exact ⟨fun q => absurd q (by decide), fun q => by omega⟩
theorem restM {M : Mm} {d : PD} {Q : Int32 → Mm → Prop} (hd : PDok d) (h1 : pn d = 1) (hp : PH d M) (q : ∀ M', FR M' M → Q (nI (hbU (restP d) 12)) M') : lX7_rest_22 Q (nI 0) (nI (0 + 1)) M := by
  have hT := one_sort hd h1
  have hSd : 1 ≤ pS d ∧ pS d ≤ 11 := ⟨hd.1, hd.2.1⟩
  have hC := hd.2.2.2.1
  have hC1 := hd.2.2.1
  refine up_loop (fun k m => lX7_rest_22 Q (nI (hbU (restP d) k)) (nI (k + 1)) m) (fun k m => FR m M) 12 ?_ ?_ 0 M (Nat.zero_le _) (fr_rf M)
  · rintro m h
    exact lX7_rest_22_mk _ _ _ _ (br_t (by decide) (q m h))
  · rintro k m hk h ih
    obtain ⟨⟨h14, h31⟩, p11, p28, p12, p29, p13, p30, pr⟩ := PH_fb (fb_fr h) hp
    have pr0 := pr 0 (by omega)
    have hl := LB_4 (k := k + 1) hSd (by omega) hT.1
    refine lX7_rest_22_mk _ _ _ _ (br_f (nI_nlt (a := 12) (b := k + 1) (by omega) (by omega)) (layBM hSd (by omega) hT.1 p29 pr0.2.1 (fun m2 f2 hW => ?_)))
    have e29 : gi m2 29 = nI (pS d) := by rw [f2.1 29 (by decide)]; exact p29
    rw [show (0 : Int64) = jZ 0 from rfl, show (0 : Int32) = nI 0 from rfl]
    refine up_loop (fun j (_ : Unit) => lX7_rest_41 (nI (hbU (restP d) k)) (nI (k + 1)) Q (lX7_rest_22 Q) (jZ (metB (pS d) (wB (pS d) (k + 1) (pT d 0)) j)) (jZ (stoB (pS d) (wB (pS d) (k + 1) (pT d 0)) j)) (nI j) m2) (fun _ _ => True) 4 ?_ ?_ 0 () (Nat.zero_le _) trivial
    · rintro _ -
      have hb := bs_rg hSd hl
      refine lX7_rest_41_mk _ _ _ _ _ _ _ _ (br_t (by decide) ?_)
      have eW : (ga m2 37 (0 : Int32).toNatClampNeg).toInt64 = jZ (pW d 0) := by
        rw [show (0 : Int32).toNatClampNeg = 0 from rfl, f2.2 37 (by decide) (by decide), pr0.2.2.2, nI_l (by omega), jZ_N]
      have eC : (gi m2 30).toInt64 = jZ (pC d) := by rw [f2.1 30 (by decide), p30, nI_l (by omega), jZ_N]
      have eS : (gi m2 29).toInt64 = jZ (pS d) := by rw [e29, nI_l (by omega), jZ_N]
      rw [eW, eC, eS, show (12 : Int64) = jZ 12 from rfl, jZ_mul, jZ_mul]
      have a1 : metB (pS d) (wB (pS d) (k + 1) (pT d 0)) 4 * (pS d : Int) ≤ 534966026907000 * 11 := Int.mul_le_mul hb.2.1 (by omega) (by omega) (by decide)
      have a2 : 0 < metB (pS d) (wB (pS d) (k + 1) (pT d 0)) 4 * (pS d : Int) := Int.mul_pos hb.1 (by omega)
      refine compareM ⟨by omega, by omega⟩ (by omega) ⟨by omega, by omega⟩ ⟨by omega, by omega⟩ a2 ⟨by omega, by omega⟩ ?_
      rw [sg_lt0, nI_1]
      have ez : (pW d 0 : Int) * (metB (pS d) (wB (pS d) (k + 1) (pT d 0)) 4 * (pS d : Int)) - stoB (pS d) (wB (pS d) (k + 1) (pT d 0)) 4 * (12 * (pC d : Int)) = ((pW d 0 * pS d : Nat) : Int) * metB (pS d) (wB (pS d) (k + 1) (pT d 0)) 4 - ((pC d * 12 : Nat) : Int) * stoB (pS d) (wB (pS d) (k + 1) (pT d 0)) 4 := by
        rw [Int.natCast_mul, Int.natCast_mul, Int.mul_comm (metB _ _ _), Int.mul_assoc, Int.mul_comm (stoB _ _ _), Int.mul_comm 12]; rfl
      rw [ez]
      have ih := ih m2 (fr_tr f2 h)
      refine br_c (fun g => ?_) (fun g => ?_)
      · have c : ¬ restP d (k + 1) = true := by
          unfold restP payB
          rw [decide_eq_true (by omega)]; decide
        rw [hb_n c] at ih; exact ih
      · have c : restP d (k + 1) = true := by
          unfold restP payB
          rw [decide_eq_false (by omega)]; rfl
        rw [hb_t c] at ih; exact ih
    · rintro j _ hj - ih2
      refine lX7_rest_41_mk _ _ _ _ _ _ _ _ (br_f (nI_ge (b := 4) hj (by omega)) (metM (S := pS d) (w := wB (pS d) (k + 1) (pT d 0)) hSd.2 (by omega) e29 hW (metM (S := pS d) (w := wB (pS d) (k + 1) (pT d 0)) hSd.2 (by omega) e29 hW ?_)))
      rw [nI_1, nI_l (by omega), jZ_N, jZ_mul, jZ_add, jZ_add, Int.mul_comm _ ((j + 1 : Nat) : Int)]
      exact ih2 () trivial
theorem ok_rest {M : Mm} (h : Rel M) : okI wX6_rest wX7_rest M := by
  unfold okI wX6_rest wX7_rest
  obtain ⟨hO, hS, n', c', hn, h14, h31, hQ, hP⟩ := id h
  rcases told_cases hP with ⟨h0, h1, h2⟩ | ⟨h1, h2, d, hd, hdn, hp, hba, hb, hg⟩
  · subst h0
    exact br_f (by rw [h14]; decide) (br_t h2 ⟨rfl, h⟩)
  subst hdn
  have hph : PH d M := ⟨⟨h14, h31⟩, hp⟩
  by_cases h1s : pn d = 1
  · refine br_t (by rw [h14, h1s]; rfl) ?_
    rw [show (12 : Int32) = nI 12 from rfl]
    refine restC hd h1s hph (fun M1 f1 => br_f (by rw [f1.1 28 (by decide), h2]; decide) (br_t (by rw [f1.1 31 (by decide), h31, h1s]; rfl) ?_))
    exact restM hd h1s (PH_fb (fb_fr f1) hph) (fun M2 f2 => ⟨rfl, Rel_fr (fr_tr f2 f1) h⟩)
  · exact br_f (by rw [h14, show (1 : Int32) = nI 1 from rfl, nI_eq (by omega) (by omega)]; exact h1s) (br_f (by rw [h2]; decide) (br_f (by rw [h31, show (1 : Int32) = nI 1 from rfl, nI_eq (by omega) (by omega)]; exact h1s) ⟨rfl, h⟩))
