/-! which of two shares is greater: both answer the sign of a d - c b -/
theorem rg_fl {a b : Int} (ha : rgL a) (hb : 0 < b) : rgL (a / b) := by
  unfold rgL at *
  have h1 : a / b ≤ a ∨ a / b ≤ 0 := by
    by_cases g : 0 ≤ a
    · exact Or.inl (Int.ediv_le_self b g)
    · exact Or.inr (by have := Int.ediv_neg_of_neg_of_pos (a := a) (b := b) (by omega) hb; omega)
  have h2 : a ≤ a / b ∨ 0 ≤ a / b := by
    by_cases g : 0 ≤ a
    · exact Or.inr (Int.ediv_nonneg g (by omega))
    · refine Or.inl ?_
      have h3 := Int.emod_add_mul_ediv a b
      have h4 := Int.emod_nonneg a (b := b) (by omega)
      have h5 := Int.ediv_neg_of_neg_of_pos (a := a) (b := b) (by omega) hb
      have h6 : b * (a / b) ≤ 1 * (a / b) := Int.mul_le_mul_of_nonpos_right (by omega) (by omega)
      have h7 := Int.emod_lt_of_pos a hb
      have h8 : (a / b) * 1 ≥ (a / b) * b := Int.mul_le_mul_of_nonpos_left (by omega) (by omega)
      by_cases z : b = 1
      · subst z; simp
      · have h9 : (a / b + 1) * b ≤ (a / b + 1) * 1 := Int.mul_le_mul_of_nonpos_left (by omega) (by omega)
        rw [Int.add_mul, Int.mul_comm (a / b) b] at h9
        omega
  omega
theorem tmod_np {a b : Int} (ha : a ≤ 0) (hb : 0 < b) : a.tmod b ≤ 0 := by
  have := Int.tmod_nonneg b (show 0 ≤ -a by omega)
  rw [Int.neg_tmod] at this
  omega
theorem floorC {M : Mm} {a b : Int} {Q : Int64 → Mm → Prop} (ha : rgL a) (h0 : 0 < b) (hb : rgL b) (q : Q (jZ (a / b)) M) : wJ9_floorDiv_f86c9 (jZ a) (jZ b) Q M := by
  have z0 : rgL 0 := ⟨by decide, by decide⟩
  have e0 : (0 : Int64) = jZ 0 := rfl
  have hy : 0 < jZ b := by rw [e0, jZ_lt z0 hb]; exact h0
  have hn : ¬ jZ b = 0 := by rw [e0, jZ_eq hb z0]; omega
  unfold wJ9_floorDiv_f86c9
  rw [jZ_div ha h0 hb, jZ_mul]
  have ht := tdiv_rg ha h0
  refine ⟨hn, br_c (fun g => ?_) (fun g => br_c (fun z => ?_) (fun z => ?_))⟩
  · rw [xor_pos hy, e0, jZ_le z0 ha] at g
    rw [tdiv_fl_p g]; exact q
  · rw [xor_pos hy, e0, jZ_le z0 ha] at g
    have h1 := Int.tdiv_mul_add_tmod a b
    have h2 : rgL (a.tdiv b * b) := by
      have h3 := tmod_np (show a ≤ 0 by omega) h0
      have h4 := Int.lt_tmod_of_pos a h0
      unfold rgL at *
      omega
    rw [jZ_eq h2 ha] at z
    rw [tdiv_fl_e h0 z]; exact q
  · rw [xor_pos hy, e0, jZ_le z0 ha] at g
    rw [show (1 : Int64) = jZ 1 from rfl, jZ_sub, tdiv_fl_n h0 (by omega) (fun w => z (by rw [w]))]
    exact q
theorem floorM {M : Mm} {a b : Int} {Q : Int64 → Mm → Prop} (ha : rgL a) (h0 : 0 < b) (hb : rgL b) (q : Q (jZ (a / b)) M) : wX7_whole (jZ a) (jZ b) Q M := by
  have z0 : rgL 0 := ⟨by decide, by decide⟩
  have e0 : (0 : Int64) = jZ 0 := rfl
  have hn : ¬ jZ b = 0 := by rw [e0, jZ_eq hb z0]; omega
  have h1 := Int.mul_tdiv_add_tmod a b
  have hr : rgL (a.tmod b) := by
    have h3 := Int.lt_tmod_of_pos a h0
    have h4 := Int.tmod_lt_of_pos a h0
    unfold rgL at *
    omega
  unfold wX7_whole
  have em : a - a.tdiv b * b = a.tmod b := by rw [Int.mul_comm]; omega
  rw [jZ_div ha h0 hb, jZ_mul, jZ_sub, em, e0]
  refine ⟨hn, hn, br_c (fun g => ?_) (fun g => ?_)⟩
  · rw [jZ_le z0 hr] at g
    by_cases s : 0 ≤ a
    · rw [tdiv_fl_p s]; exact q
    · have h3 := tmod_np (show a ≤ 0 by omega) h0
      rw [tdiv_fl_e h0 (by omega)]; exact q
  · rw [jZ_le z0 hr] at g
    have s : a < 0 := by
      apply Int.not_le.mp
      intro s
      exact g (Int.tmod_nonneg b s)
    rw [show (1 : Int64) = jZ 1 from rfl, jZ_sub, tdiv_fl_n h0 s (by omega)]
    exact q
theorem cmp_stop {M : Mm} {Q : Int32 → Mm → Prop} {a b c d : Int} {s : Nat} (hb : 0 ≤ b) (hd : 0 ≤ d) (rb : rgL b) (rd : rgL d) (h1 : b = 0 ∨ d = 0) (h2 : (0 < b ∧ 0 < d) ∨ (0 < a ∧ 0 < c)) (q : Q (sgI (a * d - c * b)) M) : lX6_compareShares_17 Q (jZ a) (jZ b) (jZ c) (jZ d) (nI s) M := by
  have z0 : rgL 0 := ⟨by decide, by decide⟩
  have e0 : (0 : Int64) = jZ 0 := rfl
  have hf : ((jZ d ≤ (0 : Int64) → ((jZ b ≤ (0 : Int64) → (Q (0 : Int32) M)) ∧ (¬ jZ b ≤ (0 : Int64) → (Q (-1 : Int32) M)))) ∧ (¬ jZ d ≤ (0 : Int64) → (Q (1 : Int32) M))) := by
    rw [e0, jZ_le rb z0, jZ_le rd z0]
    refine br_c (fun g => br_c (fun g2 => ?_) (fun g2 => ?_)) (fun g => ?_)
    · have e1 : b = 0 := by omega
      have e2 : d = 0 := by omega
      subst e1; subst e2
      rw [sg_0 (by simp)] at q; exact q
    · have e2 : d = 0 := by omega
      subst e2
      rw [sg_m (by have := Int.mul_pos (show 0 < c by omega) (show 0 < b by omega); omega)] at q; exact q
    · have e1 : b = 0 := by omega
      subst e1
      rw [sg_p (by have := Int.mul_pos (show 0 < a by omega) (show 0 < d by omega); omega)] at q; exact q
  refine lX6_compareShares_17_mk _ _ _ _ _ _ _ (br_c (fun _ => hf) (fun _ => br_c (fun _ => hf) (fun g => br_t ?_ hf)))
  rw [e0, jZ_le rb z0] at g
  rw [e0, jZ_le rd z0]
  omega
theorem emod_s {a b : Int} : a - a / b * b = a % b := by
  have := Int.emod_add_mul_ediv a b
  rw [Int.mul_comm]; omega
theorem cross_next {a b c d : Int} (h : a / b = c / d) : a * d - c * b = d * (a % b) - b * (c % d) := by
  rw [cross_eq (q := a / b), emod_s, h, emod_s, Int.mul_comm d, Int.mul_comm b]
theorem cmp_step {M : Mm} {Q : Int32 → Mm → Prop} {a b c d : Int} {s : Nat} (hb : 0 < b) (hd : 0 < d) (ra : rgL a) (rb : rgL b) (rc : rgL c) (rd : rgL d) (hs : s < 200) (q : Q (sgI (a * d - c * b)) M) (next : Q (sgI (d * (a % b) - b * (c % d))) M → lX6_compareShares_17 Q (jZ d) (jZ (c % d)) (jZ b) (jZ (a % b)) (nI (s + 1)) M) : lX6_compareShares_17 Q (jZ a) (jZ b) (jZ c) (jZ d) (nI s) M := by
  have z0 : rgL 0 := ⟨by decide, by decide⟩
  have e0 : (0 : Int64) = jZ 0 := rfl
  have nb : ¬ jZ b ≤ (0 : Int64) := by rw [e0, jZ_le rb z0]; omega
  have nd : ¬ jZ d ≤ (0 : Int64) := by rw [e0, jZ_le rd z0]; omega
  refine lX6_compareShares_17_mk _ _ _ _ _ _ _ (br_f (nI_ge (b := 200) hs (by decide)) (br_f nb (br_f nd (floorC ra hb rb (floorC rc hd rd ?_)))))
  have r1 := rg_fl ra hb
  have r2 := rg_fl rc hd
  refine br_c (fun g => ?_) (fun g => br_c (fun g2 => ?_) (fun g2 => ?_))
  · rw [jZ_eq r1 r2] at g
    rw [jZ_mul, jZ_mul, jZ_sub, jZ_sub, emod_s, emod_s, nI_1]
    exact next (by rw [cross_next g] at q; exact q)
  · rw [jZ_eq r1 r2] at g
    rw [jZ_le r1 r2] at g2
    rw [sg_m (cross_lt hb hd (by omega))] at q; exact q
  · rw [jZ_eq r1 r2] at g
    rw [jZ_le r1 r2] at g2
    rw [sg_p (cross_gt hb hd (by omega))] at q; exact q
theorem rg_mod {a b : Int} (hb : 0 < b) (rb : rgL b) : 0 ≤ a % b ∧ a % b < b ∧ rgL (a % b) := by
  have h1 := Int.emod_nonneg a (b := b) (by omega)
  have h2 := Int.emod_lt_of_pos a hb
  unfold rgL at *
  omega
theorem imod_half {b r : Int} (h0 : 0 < r) (h : r ≤ b) : 2 * (b % r) < b := by
  have h1 := Int.emod_add_mul_ediv b r
  have h2 := Int.emod_lt_of_pos b h0
  have h3 : 1 ≤ b / r := Int.le_ediv_of_mul_le h0 (by omega)
  have h4 : r * 1 ≤ r * (b / r) := Int.mul_le_mul_of_nonneg_left h3 (by omega)
  omega
theorem cmpC {M : Mm} {Q : Int32 → Mm → Prop} : ∀ (j : Nat) (a b c d : Int) (s : Nat), 0 ≤ b → 0 ≤ d → b < 2 ^ j → rgL a → rgL b → rgL c → rgL d → ((0 < b ∧ 0 < d) ∨ (0 < a ∧ 0 < c)) → s + 2 * j ≤ 200 → Q (sgI (a * d - c * b)) M → lX6_compareShares_17 Q (jZ a) (jZ b) (jZ c) (jZ d) (nI s) M := by
  intro j
  induction j with
  | zero =>
    intro a b c d s hb hd hj ra rb rc rd h hs q
    exact cmp_stop hb hd rb rd (Or.inl (by simp at hj; omega)) h q
  | succ j ih =>
    intro a b c d s hb hd hj ra rb rc rd h hs q
    rw [Int.pow_succ] at hj
    by_cases z : b = 0 ∨ d = 0
    · exact cmp_stop hb hd rb rd z h q
    have hb1 : 0 < b := by omega
    have hd1 : 0 < d := by omega
    refine cmp_step hb1 hd1 ra rb rc rd (by omega) q (fun q => ?_)
    obtain ⟨m1, m2, m3⟩ := rg_mod (a := a) hb1 rb
    obtain ⟨k1, k2, k3⟩ := rg_mod (a := c) hd1 rd
    by_cases y : c % d = 0 ∨ a % b = 0
    · exact cmp_stop k1 m1 k3 m3 y (Or.inr ⟨hd1, hb1⟩) q
    have hm : 0 < a % b := by omega
    have hk : 0 < c % d := by omega
    refine cmp_step hk hm rd k3 rb m3 (by omega) q (fun q => ?_)
    obtain ⟨x1, x2, x3⟩ := rg_mod (a := b) hm m3
    obtain ⟨y1, y2, y3⟩ := rg_mod (a := d) hk k3
    have hh := imod_half hm (Int.le_of_lt m2)
    exact ih _ _ _ _ (s + 1 + 1) x1 y1 (by omega) m3 x3 k3 y3 (Or.inr ⟨hm, hk⟩) (by omega) q
theorem compareC {M : Mm} {Q : Int32 → Mm → Prop} {a b c d : Int} (ra : rgL a) (hb : 0 < b) (rb : rgL b) (rc : rgL c) (hd : 0 < d) (rd : rgL d) (q : Q (sgI (a * d - c * b)) M) : wX6_compareShares (jZ a) (jZ b) (jZ c) (jZ d) Q M :=
  cmpC 63 a b c d 0 (by omega) (by omega) rb.2 ra rb rc rd (Or.inl ⟨hb, hd⟩) (by decide) q
theorem sg_neg (z : Int) : -sgI z = sgI (-z) := by
  rcases Int.lt_trichotomy z 0 with h | h | h
  · rw [sg_m h, sg_p (by omega)]; decide
  · rw [sg_0 h, sg_0 (by omega)]; decide
  · rw [sg_p h, sg_m (by omega)]
/-- a sign, as a number and as an answer -/
def isSg (x : Int32) (t z : Int) : Prop := (x = 1 ∧ t = z) ∨ (x = -1 ∧ t = -z)
theorem cmpM {M : Mm} {Q : Int32 → Mm → Prop} : ∀ (k : Nat) (a b c d t : Int) (x : Int32), 0 < b → 0 < d → b.toNat ≤ k → rgL a → rgL b → rgL c → rgL d → isSg x t (a * d - c * b) → Q (sgI t) M → lX7_compare_17 Q (jZ a) (jZ b) (jZ c) (jZ d) x M := by
  have z0 : rgL 0 := ⟨by decide, by decide⟩
  have e0 : (0 : Int64) = jZ 0 := rfl
  intro k
  induction k with
  | zero => intro a b c d t x hb hd hk; omega
  | succ k ih =>
    intro a b c d t x hb hd hk ra rb rc rd hx q
    have r1 := rg_fl ra hb
    have r2 := rg_fl rc hd
    obtain ⟨m1, m2, m3⟩ := rg_mod (a := a) hb rb
    obtain ⟨k1, k2, k3⟩ := rg_mod (a := c) hd rd
    have pos : 0 < a * d - c * b → Q x M := fun g => by
      rcases hx with ⟨e, e2⟩ | ⟨e, e2⟩
      · rw [sg_p (by omega)] at q; rw [e]; exact q
      · rw [sg_m (by omega)] at q; rw [e]; exact q
    have neg : a * d - c * b < 0 → Q (-x) M := fun g => by
      rcases hx with ⟨e, e2⟩ | ⟨e, e2⟩
      · rw [sg_m (by omega)] at q; rw [e]; exact q
      · rw [sg_p (by omega)] at q; rw [e]; exact q
    have zer : a * d - c * b = 0 → Q 0 M := fun g => by
      have : t = 0 := by rcases hx with ⟨e, e2⟩ | ⟨e, e2⟩ <;> omega
      rw [sg_0 this] at q; exact q
    refine lX7_compare_17_mk _ _ _ _ _ _ _ (floorM ra hb rb (floorM rc hd rd ?_))
    refine br_c (fun g => ?_) (fun g => br_c (fun g2 => ?_) (fun g2 => ?_))
    · rw [jZ_eq r1 r2] at g
      have hn := cross_next g
      rw [jZ_mul, jZ_mul, jZ_sub, jZ_sub, emod_s, emod_s, e0, jZ_eq m3 z0, jZ_eq m3 k3, jZ_eq k3 z0]
      refine br_c (fun y => br_c (fun w => zer ?_) (fun w => br_t y (neg ?_))) (fun y => br_c (fun w => br_f (by omega) (br_f y (pos ?_))) (fun w => ?_))
      · rw [hn, y, ← w, y]; simp
      · have : 0 < c % d := by omega
        have := Int.mul_pos hb this
        rw [hn, y]; simp; omega
      · have : 0 < a % b := by omega
        have := Int.mul_pos hd this
        rw [hn, w]; simp; omega
      · have hm : 0 < a % b := by omega
        have hkk : 0 < c % d := by omega
        refine ih b (a % b) d (c % d) t (-x) hm hkk (by omega) rb m3 rd k3 ?_ q
        have e : b * (c % d) - d * (a % b) = -(a * d - c * b) := by omega
        rcases hx with ⟨e1, e2⟩ | ⟨e1, e2⟩
        · exact Or.inr ⟨by rw [e1], by omega⟩
        · exact Or.inl ⟨by rw [e1]; decide, by omega⟩
    · rw [jZ_eq r1 r2] at g
      rw [jZ_le r1 r2] at g2
      exact neg (cross_lt hb hd (by omega))
    · rw [jZ_eq r1 r2] at g
      rw [jZ_le r1 r2] at g2
      exact pos (cross_gt hb hd (by omega))
theorem compareM {M : Mm} {Q : Int32 → Mm → Prop} {a b c d : Int} (ra : rgL a) (hb : 0 < b) (rb : rgL b) (rc : rgL c) (hd : 0 < d) (rd : rgL d) (q : Q (sgI (a * d - c * b)) M) : wX7_compare (jZ a) (jZ b) (jZ c) (jZ d) Q M :=
  cmpM b.toNat a b c d _ 1 hb hd (Nat.le_refl _) ra rb rc rd (Or.inl ⟨rfl, rfl⟩) q
