/-! pure rows: comparisons by Int -/
theorem i_lt {x y : Int32} : x < y ↔ x.toInt < y.toInt := Int32.lt_iff_toInt_lt
theorem i_le {x y : Int32} : x ≤ y ↔ x.toInt ≤ y.toInt := Int32.le_iff_toInt_le
theorem l_lt {x y : Int64} : x < y ↔ x.toInt < y.toInt := Int64.lt_iff_toInt_lt
theorem l_le {x y : Int64} : x ≤ y ↔ x.toInt ≤ y.toInt := Int64.le_iff_toInt_le
abbrev inI (v : Int32) (lo hi : Int) : Prop := lo ≤ v.toInt ∧ v.toInt ≤ hi
theorem inI_nI {v : Int32} {hi : Int} {n : Nat} (h : inI v 0 hi) (hn : hi = (n : Int)) : ∃ j : Nat, j ≤ n ∧ v = nI j := by
  refine ⟨v.toInt.toNat, by unfold inI at h; omega, ?_⟩
  have h1 := Int32.toInt_lt v
  apply Int32.toInt_inj.mp
  unfold inI at h
  rw [nI_toInt (by omega)]
  omega
section PURE
variable {M : Mm} {v a b : Int32} {A B : Int32 → Mm → Prop}
theorem isWithin_br (lo hi : Int) (ha : a.toInt = lo) (hb : b.toInt = hi) (h0 : ¬ inI v lo hi → A 0 M) (h1 : inI v lo hi → B 1 M) : wX6_isWithin v a b (fun r M => (r = 0 → A r M) ∧ (¬ r = 0 → B r M)) M := by
  subst ha; subst hb
  unfold wX6_isWithin
  refine br_c (fun c => ?_) (fun c => br_c (fun d => ?_) (fun d => ?_))
  · exact br_t rfl (h0 (fun q => by rw [i_lt] at c; unfold inI at q; omega))
  · exact br_t rfl (h0 (fun q => by rw [i_lt] at d; unfold inI at q; omega))
  · exact br_f (by decide) (h1 (by rw [i_lt] at c d; unfold inI; omega))
theorem within_t (lo hi : Int) (ha : a.toInt = lo) (hb : b.toInt = hi) (h : inI v lo hi) (q : B 1 M) : wX7_within v a b (fun r M => (r = 0 → A r M) ∧ (¬ r = 0 → B r M)) M := by
  subst ha; subst hb
  unfold wX7_within
  unfold inI at h
  exact br_f (by rw [i_lt]; omega) (br_f (by rw [i_lt]; omega) (br_f (by decide) q))
theorem within_n (lo hi : Int) (ha : a.toInt = lo) (hb : b.toInt = hi) (h : ¬ inI v lo hi) (q : A 0 M) : wX7_within v a b (fun r M => (r = 0 → A r M) ∧ (¬ r = 0 → B r M)) M := by
  subst ha; subst hb
  unfold wX7_within
  unfold inI at h
  refine br_c (fun c => br_t rfl q) (fun c => br_c (fun d => br_t rfl q) (fun d => ?_))
  rw [i_lt] at c d
  exact absurd ⟨by omega, by omega⟩ h
theorem isWithin_t (lo hi : Int) (ha : a.toInt = lo) (hb : b.toInt = hi) (h : inI v lo hi) (q : B 1 M) : wX6_isWithin v a b (fun r M => (r = 0 → A r M) ∧ (¬ r = 0 → B r M)) M := isWithin_br lo hi ha hb (fun n => absurd h n) (fun _ => q)
theorem isWithin_n (lo hi : Int) (ha : a.toInt = lo) (hb : b.toInt = hi) (h : ¬ inI v lo hi) (q : A 0 M) : wX6_isWithin v a b (fun r M => (r = 0 → A r M) ∧ (¬ r = 0 → B r M)) M := isWithin_br lo hi ha hb (fun _ => q) (fun n => absurd n h)
/-- a question whose answer is passed on by one more method -/
theorem isWithin_q {Q : Int32 → Mm → Prop} (lo hi : Int) (ha : a.toInt = lo) (hb : b.toInt = hi) (h0 : ¬ inI v lo hi → Q 0 M) (h1 : inI v lo hi → Q 1 M) : wX6_isWithin v a b Q M := by
  subst ha; subst hb
  unfold wX6_isWithin
  refine br_c (fun c => ?_) (fun c => br_c (fun d => ?_) (fun d => ?_))
  · exact h0 (fun q => by rw [i_lt] at c; unfold inI at q; omega)
  · exact h0 (fun q => by rw [i_lt] at d; unfold inI at q; omega)
  · exact h1 (by rw [i_lt] at c d; unfold inI; omega)
theorem within_q {Q : Int32 → Mm → Prop} (lo hi : Int) (ha : a.toInt = lo) (hb : b.toInt = hi) (h0 : ¬ inI v lo hi → Q 0 M) (h1 : inI v lo hi → Q 1 M) : wX7_within v a b Q M := by
  subst ha; subst hb
  unfold wX7_within
  refine br_c (fun c => ?_) (fun c => br_c (fun d => ?_) (fun d => ?_))
  · exact h0 (fun q => by rw [i_lt] at c; unfold inI at q; omega)
  · exact h0 (fun q => by rw [i_lt] at d; unfold inI at q; omega)
  · exact h1 (by rw [i_lt] at c d; unfold inI; omega)
theorem isWhich_t {Q : Int32 → Mm → Prop} (h : inI v 0 1) (q : Q 1 M) : wX7_isWhich v Q M := by
  unfold wX7_isWhich inI at *
  refine br_c (fun c => q) (fun c => br_t ?_ q)
  apply Int32.toInt_inj.mp
  have h0 : ¬ v.toInt = 0 := fun z => c (Int32.toInt_inj.mp z)
  show v.toInt = 1
  omega
theorem isWhich_n {Q : Int32 → Mm → Prop} (h : ¬ inI v 0 1) (q : Q 0 M) : wX7_isWhich v Q M := by
  unfold wX7_isWhich inI at *
  refine br_f ?_ (br_f ?_ q)
  · rintro rfl; exact h (by decide)
  · rintro rfl; exact h (by decide)
theorem at_in {k n j : Nat} {Q : Int32 → Mm → Prop} (hk : lenA k = n) (hn : n ≤ 1000) (hj : j < n) (q : Q (ga M k j) M) : wX6_at k (nI j) Q M := by
  unfold wX6_at
  rw [hk]
  refine br_f (nI_pos (by omega)) (br_f (nI_ge hj (by omega)) ⟨vp_in_nI hj (by omega), ?_⟩)
  rw [nI_clamp (by omega)]
  exact q
theorem at_out {k n j : Nat} {Q : Int32 → Mm → Prop} (hk : lenA k = n) (hj : n ≤ j) (hb : j < 2 ^ 31) (q : Q 0 M) : wX6_at k (nI j) Q M := by
  unfold wX6_at
  rw [hk]
  exact br_f (nI_pos (by omega)) (br_t (nI_le hj (by omega)) q)
theorem atJ_in {k n j : Nat} {Q : Int64 → Mm → Prop} (hk : lenA k = n) (hn : n ≤ 1000) (hj : j < n) (q : Q (gb M k j) M) : wX6_at_ k (nI j) Q M := by
  unfold wX6_at_
  rw [hk]
  refine br_f (nI_pos (by omega)) (br_f (nI_ge hj (by omega)) ⟨vp_in_nI hj (by omega), ?_⟩)
  rw [nI_clamp (by omega)]
  exact q
theorem atJ_out {k n j : Nat} {Q : Int64 → Mm → Prop} (hk : lenA k = n) (hj : n ≤ j) (hb : j < 2 ^ 31) (q : Q 0 M) : wX6_at_ k (nI j) Q M := by
  unfold wX6_at_
  rw [hk]
  exact br_f (nI_pos (by omega)) (br_t (nI_le hj (by omega)) q)
theorem set_in {k n j : Nat} {x : Int32} {Q : Mm → Prop} (hk : lenA k = n) (hn : n ≤ 1000) (hj : j < n) (q : Q (sa M k (upd (ga M k) j x))) : wX6_set k (nI j) x Q M := by
  unfold wX6_set
  rw [hk]
  refine br_f (nI_pos (by omega)) (br_f (nI_ge hj (by omega)) ⟨vp_in_nI hj (by omega), nm_e ?_⟩)
  rw [nI_clamp (by omega)]
  exact q
theorem setJ_in {k n j : Nat} {x : Int64} {Q : Mm → Prop} (hk : lenA k = n) (hn : n ≤ 1000) (hj : j < n) (q : Q (sb M k (vp_updL (gb M k) j x))) : wX6_set_ k (nI j) x Q M := by
  unfold wX6_set_
  rw [hk]
  refine br_f (nI_pos (by omega)) (br_f (nI_ge hj (by omega)) ⟨vp_in_nI hj (by omega), nm_e ?_⟩)
  rw [nI_clamp (by omega)]
  exact q
end PURE
theorem sa_sa (M : Mm) (k : Nat) (f g : Nat → Int32) : sa (sa M k f) k g = sa M k g := by
  unfold sa
  refine Prod.ext rfl (Prod.ext rfl (Prod.ext ?_ rfl))
  funext j
  by_cases h : j = k <;> simp [h]
theorem sb_sb (M : Mm) (k : Nat) (f g : Nat → Int64) : sb (sb M k f) k g = sb M k g := by
  unfold sb
  refine Prod.ext rfl (Prod.ext rfl (Prod.ext rfl ?_))
  funext j
  by_cases h : j = k <;> simp [h]
theorem si_si (M : Mm) (k : Nat) (x y : Int32) : si (si M k x) k y = si M k y := by
  unfold si
  refine Prod.ext ?_ rfl
  funext j
  by_cases h : j = k <;> simp [h]
theorem sj_sj (M : Mm) (k : Nat) (x y : Int64) : sj (sj M k x) k y = sj M k y := by
  unfold sj
  refine Prod.ext rfl (Prod.ext ?_ rfl)
  funext j
  by_cases h : j = k <;> simp [h]
theorem ga_sa_eq (M : Mm) (k : Nat) (f : Nat → Int32) : ga (sa M k f) k = f := by simp [ga_sa]
theorem gb_sb_eq (M : Mm) (k : Nat) (f : Nat → Int64) : gb (sb M k f) k = f := by simp [gb_sb]
theorem gi_si_eq (M : Mm) (k : Nat) (x : Int32) : gi (si M k x) k = x := by simp [gi_si]
theorem gj_sj_eq (M : Mm) (k : Nat) (x : Int64) : gj (sj M k x) k = x := by simp [gj_sj]
/-- a loop that counts up -/
theorem up_loop {σ : Type} (W : Nat → σ → Prop) (I : Nat → σ → Prop) (n : Nat) (hx : ∀ s, I n s → W n s) (hs : ∀ j s, j < n → I j s → (∀ s', I (j + 1) s' → W (j + 1) s') → W j s) : ∀ j s, j ≤ n → I j s → W j s := by
  have key : ∀ d j s, j + d = n → I j s → W j s := by
    intro d
    induction d with
    | zero => intro j s h hi; have : j = n := by omega
              subst this; exact hx s hi
    | succ d ih => intro j s h hi; exact hs j s (by omega) hi (fun s' h' => ih (j + 1) s' (by omega) h')
  intro j s h hi
  exact key (n - j) j s (by omega) hi
/-- a loop that counts down to nothing -/
theorem down_loop {σ : Type} (W : Nat → σ → Prop) (I : Nat → σ → Prop) (hx : ∀ s, I 0 s → W 0 s) (hs : ∀ j s, I (j + 1) s → (∀ s', I j s' → W j s') → W (j + 1) s) : ∀ j s, I j s → W j s := by
  intro j
  induction j with
  | zero => exact hx
  | succ j ih => intro s h; exact hs j s h ih
def sumTo (f : Nat → Nat) : Nat → Nat
  | 0 => 0
  | n + 1 => sumTo f n + f n
theorem sumTo_le (f : Nat → Nat) {a b : Nat} (h : a ≤ b) : sumTo f a ≤ sumTo f b := by
  induction b with
  | zero => have : a = 0 := by omega
            subst this; exact Nat.le_refl _
  | succ b ih =>
    rcases Nat.lt_or_ge a (b + 1) with q | q
    · exact Nat.le_trans (ih (by omega)) (Nat.le_add_right _ _)
    · have : a = b + 1 := by omega
      subst this; exact Nat.le_refl _
theorem sumTo_at (f : Nat → Nat) {a b : Nat} (h : a < b) : f a ≤ sumTo f b := Nat.le_trans (Nat.le_add_left _ _) (sumTo_le f (a := a + 1) h)
theorem sa_self (M : Mm) (k : Nat) : sa M k (ga M k) = M := by
  unfold sa ga
  refine Prod.ext rfl (Prod.ext rfl (Prod.ext ?_ rfl))
  funext j
  by_cases h : j = k <;> simp [h]
theorem sb_self (M : Mm) (k : Nat) : sb M k (gb M k) = M := by
  unfold sb gb
  refine Prod.ext rfl (Prod.ext rfl (Prod.ext rfl ?_))
  funext j
  by_cases h : j = k <;> simp [h]
theorem si_self (M : Mm) (k : Nat) : si M k (gi M k) = M := by
  unfold si gi
  refine Prod.ext ?_ rfl
  funext j
  by_cases h : j = k <;> simp [h]
