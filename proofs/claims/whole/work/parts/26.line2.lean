/-! counting -/
def cnt2 (k : Nat → Int32) : Nat → Nat
  | 0 => 0
  | c + 1 => cnt2 k c + (if k c = 2 then 1 else 0)
theorem cnt2_le (k : Nat → Int32) (c : Nat) : cnt2 k c ≤ c := by
  induction c with
  | zero => exact Nat.le_refl _
  | succ c ih => show cnt2 k c + _ ≤ _; split <;> omega
theorem cnt2_congr {k k' : Nat → Int32} {c : Nat} (h : ∀ j, j < c → k j = k' j) : cnt2 k c = cnt2 k' c := by
  induction c with
  | zero => rfl
  | succ c ih =>
    show cnt2 k c + _ = cnt2 k' c + _
    rw [ih (fun j hj => h j (by omega)), h c (by omega)]
theorem done_ok {M : Mm} {c : Nat} {Q : Int32 → Mm → Prop} (hc : c ≤ 40) (h23 : gi M 23 = nI c) (q : Q (nI (cnt2 (ga M 26) c)) M) : wX3_done Q M := by
  unfold wX3_done
  rw [show (0 : Int32) = nI 0 from rfl]
  refine up_loop (fun j (_ : Unit) => lX3_done_4 Q (nI (cnt2 (ga M 26) j)) (nI j) M) (fun _ _ => True) c ?_ ?_ 0 () (Nat.zero_le _) trivial
  · rintro _ -
    refine lX3_done_4_mk _ _ _ _ (br_t ?_ q)
    rw [h23]
    exact nI_le (Nat.le_refl _) (by omega)
  · rintro j _ hj - ih
    refine lX3_done_4_mk _ _ _ _ (br_f ?_ ?_)
    · rw [h23]; exact nI_ge hj (by omega)
    · have h1 : cnt2 (ga M 26) (j + 1) = cnt2 (ga M 26) j + (if ga M 26 j = 2 then 1 else 0) := rfl
      have := ih () trivial
      rw [h1] at this
      refine at_in (n := 40) rfl (by decide) (by omega) (br_c (fun e => ?_) (fun e => ?_))
      · rw [if_pos e] at this
        rw [nI_1, nI_1]; exact this
      · rw [if_neg e, Nat.add_zero] at this
        rw [nI_1]; exact this
theorem ok_many {M : Mm} (v : Int32) (h : Rel M) : okI (wX6_many v) (wX7_many v) M := by
  unfold okI wX6_many wX7_many
  obtain ⟨n, c, hn, hc, h14, h31, h23, h40, hq, hl, hp⟩ := Rel_q h
  obtain ⟨l5, l24, l31⟩ := hl
  have h4125 : gi M 41 = gi M 25 := by
    obtain ⟨-, -, _, _, -, -, -, hQ, -⟩ := h
    exact hQ.2.2.2.1
  have hs : stan (ga M 50) c = stan (ga M 26) c := stan_congr (fun j hj => by rw [(hq j hj).1])
  have h2 : cnt2 (ga M 50) c = cnt2 (ga M 26) c := cnt2_congr (fun j hj => (hq j hj).1)
  have loop : ∀ (P : Int32 → Mm → Prop), ((v = 0 → P (gi M 31) M) ∧ (¬ v = 0 → ((v = 1 → P (gi M 40) M) ∧ (¬ v = 1 → ((v = 2 → wX7_standing (fun r M => P r M) M) ∧ (¬ v = 2 → ((v = 3 → P (nI (cnt2 (ga M 50) c)) M) ∧ (¬ v = 3 → ((v = 4 → P (gi M 41) M) ∧ (¬ v = 4 → P (-2) M)))))))))) → lX7_many_4 v P 0 0 M := by
    intro P q
    rw [show (0 : Int32) = nI 0 from rfl]
    refine up_loop (fun j (_ : Unit) => lX7_many_4 v P (nI (cnt2 (ga M 50) j)) (nI j) M) (fun _ _ => True) c ?_ ?_ 0 () (Nat.zero_le _) trivial
    · rintro _ -
      refine lX7_many_4_mk _ _ _ _ _ (br_t ?_ q)
      rw [h40]
      exact nI_le (Nat.le_refl _) (by omega)
    · rintro j _ hj - ih
      refine lX7_many_4_mk _ _ _ _ _ (br_f ?_ ⟨vp_in_nI (by omega) (by decide), ?_⟩)
      · rw [h40]; exact nI_ge hj (by omega)
      · rw [nI_clamp (by omega)]
        have h1 : cnt2 (ga M 50) (j + 1) = cnt2 (ga M 50) j + (if ga M 50 j = 2 then 1 else 0) := rfl
        have := ih () trivial
        rw [h1] at this
        refine br_c (fun e => ?_) (fun e => ?_)
        · rw [if_pos e] at this
          rw [nI_1, nI_1]; exact this
        · rw [if_neg e, Nat.add_zero] at this
          rw [Int32.add_zero, nI_1]; exact this
  refine br_c (fun q => ?_) (fun q0 => br_c (fun q => ?_) (fun q1 => br_c (fun q => ?_) (fun q2 => br_c (fun q => ?_) (fun q3 => br_c (fun q => ?_) (fun q4 => ?_)))))
  · exact loop _ (br_t q ⟨by rw [h14, h31], h⟩)
  · exact loop _ (br_f q0 (br_t q ⟨by rw [h23, h40], h⟩))
  · refine loop _ (br_f q0 (br_f q1 (br_t q (standing_ok hc h40 ⟨?_, h⟩))))
    rw [hs]; exact l24
  · refine done_ok hc h23 (loop _ (br_f q0 (br_f q1 (br_f q2 (br_t q ⟨?_, h⟩)))))
    rw [h2]
  · exact loop _ (br_f q0 (br_f q1 (br_f q2 (br_f q3 (br_t q ⟨h4125.symm, h⟩)))))
  · exact loop _ (br_f q0 (br_f q1 (br_f q2 (br_f q3 (br_f q4 ⟨rfl, h⟩)))))
/-- pairs a, b with a < b of which p holds -/
def inn (p : Nat → Nat → Bool) (a : Nat) : Nat → Nat
  | 0 => 0
  | b + 1 => inn p a b + (if a < b ∧ p a b = true then 1 else 0)
def outp (p : Nat → Nat → Bool) (c : Nat) : Nat → Nat
  | 0 => 0
  | a + 1 => outp p c a + inn p a c
theorem inn_0 (p : Nat → Nat → Bool) (a : Nat) : ∀ b, b ≤ a + 1 → inn p a b = 0 := by
  intro b
  induction b with
  | zero => intro _; rfl
  | succ b ih =>
    intro h
    show inn p a b + _ = 0
    rw [ih (by omega), if_neg (by omega)]
theorem envious_ok {M : Mm} {c : Nat} {p : Nat → Nat → Bool} {Q : Int32 → Mm → Prop} (hc : c ≤ 40) (h23 : gi M 23 = nI c) (hp : ∀ a b, a < c → b < c → (p a b = true ↔ (ga M 26 a = 2 ∧ ga M 26 b = 2 ∧ ¬ ga M 30 a ≤ ga M 30 b))) (q : Q (nI (outp p c c)) M) : wX3_envious Q M := by
  unfold wX3_envious
  rw [show (0 : Int32) = nI 0 from rfl]
  refine up_loop (fun a (_ : Unit) => lX3_envious_4 Q (nI (outp p c a)) (nI a) M) (fun _ _ => True) c ?_ ?_ 0 () (Nat.zero_le _) trivial
  · rintro _ -
    exact lX3_envious_4_mk _ _ _ _ (br_t (by rw [h23]; exact nI_le (Nat.le_refl _) (by omega)) q)
  · rintro a _ ha - ih
    refine lX3_envious_4_mk _ _ _ _ (br_f (by rw [h23]; exact nI_ge ha (by omega)) ?_)
    rw [nI_1]
    have e0 : outp p c a = outp p c a + inn p a (a + 1) := by rw [inn_0 p a (a + 1) (Nat.le_refl _)]; rfl
    rw [e0]
    refine up_loop (fun b (_ : Unit) => lX3_envious_16 (nI a) Q (lX3_envious_4 Q) (nI (outp p c a + inn p a b)) (nI b) M) (fun b _ => a < b) c ?_ ?_ (a + 1) () (by omega) (by omega)
    · rintro _ -
      refine lX3_envious_16_mk _ _ _ _ _ _ (br_t (by rw [h23]; exact nI_le (Nat.le_refl _) (by omega)) ?_)
      rw [nI_1]
      exact ih () trivial
    · rintro b _ hb hab ih2
      refine lX3_envious_16_mk _ _ _ _ _ _ (br_f (by rw [h23]; exact nI_ge hb (by omega)) ?_)
      have h1 : inn p a (b + 1) = inn p a b + (if a < b ∧ p a b = true then 1 else 0) := rfl
      have h2 := ih2 () (by omega)
      rw [h1] at h2
      have hpab := hp a b ha hb
      have at1 : ∀ (k x : Nat) (hk : lenA k = 40) (hx : x < c) (Q : Int32 → Mm → Prop), Q (ga M k x) M → wX6_at k (nI x) Q M := fun k x hk hx Q q => at_in (n := 40) hk (by decide) (by omega) q
      unfold wX3_envies
      have no : ¬ (p a b = true) → lX3_envious_16 (nI a) Q (lX3_envious_4 Q) (nI (outp p c a + inn p a b)) (nI b + 1) M := fun z => by
        rw [if_neg (fun y => z y.2), Nat.add_zero] at h2
        rw [nI_1]; exact h2
      refine at1 26 a rfl ha _ (br_c (fun e1 => at1 26 b rfl hb _ (br_c (fun e2 => at1 30 a rfl ha _ (at1 30 b rfl hb _ (br_c (fun e3 => br_t rfl (no ?_)) (fun e3 => br_f one_ne ?_)))) (fun e2 => br_t rfl (no ?_)))) (fun e1 => br_t rfl (no ?_)))
      · rw [hpab]; rintro ⟨-, -, y⟩; exact y e3
      · rw [if_pos ⟨hab, hpab.mpr ⟨e1, e2, e3⟩⟩] at h2
        rw [nI_1, nI_1, Nat.add_assoc]; exact h2
      · rw [hpab]; rintro ⟨-, y, -⟩; exact e2 y
      · rw [hpab]; rintro ⟨y, -, -⟩; exact e1 y
theorem envy_ok {M : Mm} {c : Nat} {p : Nat → Nat → Bool} {Q : Int32 → Mm → Prop} (hc : c ≤ 40) (h40 : gi M 40 = nI c) (hp : ∀ a b, a < c → b < c → (p a b = true ↔ (ga M 50 a = 2 ∧ ga M 50 b = 2 ∧ ¬ ga M 53 a ≤ ga M 53 b))) (q : Q (nI (outp p c c)) M) : wX7_envy Q M := by
  unfold wX7_envy
  rw [show (0 : Int32) = nI 0 from rfl]
  refine up_loop (fun a (_ : Unit) => lX7_envy_4 Q (nI (outp p c a)) (nI a) M) (fun _ _ => True) c ?_ ?_ 0 () (Nat.zero_le _) trivial
  · rintro _ -
    exact lX7_envy_4_mk _ _ _ _ (br_t (by rw [h40]; exact nI_le (Nat.le_refl _) (by omega)) q)
  · rintro a _ ha - ih
    refine lX7_envy_4_mk _ _ _ _ (br_f (by rw [h40]; exact nI_ge ha (by omega)) ?_)
    rw [nI_1]
    have e0 : outp p c a = outp p c a + inn p a (a + 1) := by rw [inn_0 p a (a + 1) (Nat.le_refl _)]; rfl
    rw [e0]
    refine up_loop (fun b (_ : Unit) => lX7_envy_16 (nI a) Q (lX7_envy_4 Q) (nI (outp p c a + inn p a b)) (nI b) M) (fun b _ => a < b) c ?_ ?_ (a + 1) () (by omega) (by omega)
    · rintro _ -
      refine lX7_envy_16_mk _ _ _ _ _ _ (br_t (by rw [h40]; exact nI_le (Nat.le_refl _) (by omega)) ?_)
      rw [nI_1]
      exact ih () trivial
    · rintro b _ hb hab ih2
      refine lX7_envy_16_mk _ _ _ _ _ _ (br_f (by rw [h40]; exact nI_ge hb (by omega)) ⟨vp_in_nI (by omega) (by decide), ?_⟩)
      rw [nI_clamp (n := a) (by omega), nI_clamp (n := b) (by omega)]
      have h1 : inn p a (b + 1) = inn p a b + (if a < b ∧ p a b = true then 1 else 0) := rfl
      have h2 := ih2 () (by omega)
      rw [h1] at h2
      have hpab := hp a b ha hb
      have va : vp_in (nI a) 40 := vp_in_nI (by omega) (by decide)
      have vb : vp_in (nI b) 40 := vp_in_nI (by omega) (by decide)
      have no : ¬ (p a b = true) → lX7_envy_16 (nI a) Q (lX7_envy_4 Q) (nI (outp p c a + inn p a b) + 0) (nI b + 1) M := fun z => by
        rw [if_neg (fun y => z y.2), Nat.add_zero] at h2
        rw [Int32.add_zero, nI_1]; exact h2
      refine br_c (fun e1 => ⟨vb, br_c (fun e2 => ⟨va, vb, br_c (fun e3 => no ?_) (fun e3 => ?_)⟩) (fun e2 => no ?_)⟩) (fun e1 => no ?_)
      · rw [hpab]; rintro ⟨-, -, y⟩; exact y e3
      · rw [if_pos ⟨hab, hpab.mpr ⟨e1, e2, e3⟩⟩] at h2
        rw [nI_1, nI_1, Nat.add_assoc]; exact h2
      · rw [hpab]; rintro ⟨-, y, -⟩; exact e2 y
      · rw [hpab]; rintro ⟨y, -, -⟩; exact e1 y
theorem ok_envy {M : Mm} (h : Rel M) : okI wX6_envy wX7_envy M := by
  unfold okI wX6_envy
  obtain ⟨n, c, hn, hc, h14, h31, h23, h40, hq, hl, hp⟩ := Rel_q h
  refine envious_ok (p := fun a b => decide (ga M 26 a = 2 ∧ ga M 26 b = 2 ∧ ¬ ga M 30 a ≤ ga M 30 b)) hc h23 (fun a b _ _ => by simp) (envy_ok (p := fun a b => decide (ga M 26 a = 2 ∧ ga M 26 b = 2 ∧ ¬ ga M 30 a ≤ ga M 30 b)) hc h40 (fun a b ha hb => ?_) ⟨rfl, h⟩)
  rw [(hq a ha).1, (hq b hb).1, (hq a ha).2.2.2.2.2.2, (hq b hb).2.2.2.2.2.2]
  simp
