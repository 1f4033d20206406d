/-! the rows of bars, and the best of them -/
theorem pow6 {n : Nat} (h : n ≤ 3) : 1 ≤ 6 ^ n ∧ 6 ^ n ≤ 216 := by
  rcases (show n = 0 ∨ n = 1 ∨ n = 2 ∨ n = 3 by omega) with rfl | rfl | rfl | rfl <;> decide
theorem rowD_le (n k s : Nat) : rowD n k s ≤ 5 := by
  have := Nat.mod_lt (k / 6 ^ (n - 1 - s)) (show 0 < 6 by decide)
  unfold rowD; omega
theorem rowsOfC {M : Mm} {n : Nat} {Q : Int32 → Mm → Prop} (hn : n ≤ 3) (q : Q (nI (6 ^ n)) M) : wX6_rowsOf (nI n) Q M := by
  unfold wX6_rowsOf
  rw [show (1 : Int32) = nI (6 ^ 0) from rfl, show (0 : Int32) = nI 0 from rfl]
  refine up_loop (fun j (_ : Unit) => lX6_rowsOf_4 (nI n) Q (nI (6 ^ j)) (nI j) M) (fun _ _ => True) n ?_ ?_ 0 () (Nat.zero_le _) trivial
  · rintro _ -
    exact lX6_rowsOf_4_mk _ _ _ _ _ (br_t (nI_le (Nat.le_refl _) (by omega)) q)
  · rintro j _ hj - ih
    refine lX6_rowsOf_4_mk _ _ _ _ _ (br_f (nI_ge hj (by omega)) ?_)
    rw [show (6 : Int32) = nI 6 from rfl, pk_mul, nI_1]
    exact ih () trivial
theorem allRowsM {M : Mm} {n : Nat} {Q : Int32 → Mm → Prop} (hn : n ≤ 3) (h31 : gi M 31 = nI n) (q : Q (nI (6 ^ n)) M) : wX7_allRows Q M := by
  unfold wX7_allRows
  rw [h31]
  rcases (show n = 0 ∨ n = 1 ∨ n = 2 ∨ n = 3 by omega) with rfl | rfl | rfl | rfl
  · exact br_t rfl q
  · exact br_f (by decide) (br_t rfl q)
  · exact br_f (by decide) (br_f (by decide) (br_t rfl q))
  · exact br_f (by decide) (br_f (by decide) (br_f (by decide) q))
theorem row_div {n k j : Nat} (h : j < n) : k / 6 ^ (n - (j + 1)) / 6 = k / 6 ^ (n - j) := by
  rw [Nat.div_div_eq_div_mul, ← Nat.pow_succ, show (n - (j + 1)).succ = n - j by omega]
theorem rowBecomesC {M : Mm} {n k : Nat} {Q : Mm → Prop} (hn : n ≤ 3) (h14 : gi M 14 = nI n) (hk : k ≤ 216) (q : ∀ M', gi M' = gi M → (∀ j, j ≠ 24 → ga M' j = ga M j) → (∀ s, s < n → ga M' 24 s = nI (rowD n k s)) → Q M') : wX0_rowBecomes (nI k) Q M := by
  unfold wX0_rowBecomes
  rw [h14]
  have key : ∀ j (m : Mm), (j ≤ n ∧ gi m = gi M ∧ (∀ j, j ≠ 24 → ga m j = ga M j) ∧ ∀ s, j ≤ s → s < n → ga m 24 s = nI (rowD n k s)) → lX0_rowBecomes_10 Q (nI (k / 6 ^ (n - j))) (nI j - 1) m := by
    refine down_loop (fun j m => lX0_rowBecomes_10 Q (nI (k / 6 ^ (n - j))) (nI j - 1) m) (fun j m => j ≤ n ∧ gi m = gi M ∧ (∀ j, j ≠ 24 → ga m j = ga M j) ∧ ∀ s, j ≤ s → s < n → ga m 24 s = nI (rowD n k s)) ?_ ?_
    · rintro m ⟨_, h1, h2, h3⟩
      exact lX0_rowBecomes_10_mk _ _ _ _ (br_t (by decide) (q m h1 h2 (fun s hs => h3 s (Nat.zero_le _) hs)))
    · rintro j m ⟨h0, h1, h2, h3⟩ ih
      have hle : k / 6 ^ (n - (j + 1)) ≤ k := Nat.div_le_self _ _
      refine lX0_rowBecomes_10_mk _ _ _ _ ?_
      rw [nI_pred]
      refine br_f (nI_pos (by omega)) (set_in (n := 3) rfl (by decide) (by omega) ?_)
      rw [show (6 : Int32) = nI 6 from rfl, pk_rem (by omega) (by decide) (by decide), pk_div (by omega) (by decide) (by decide), row_div (by omega), ← Int32.sub_eq_add_neg]
      refine ih _ ⟨by omega, h1, fun i hi => by rw [ga_sa, if_neg hi]; exact h2 i hi, fun s hs hs2 => ?_⟩
      rw [ga_sa, if_pos rfl]
      by_cases e : s = j
      · subst e
        rw [pk_us]
        unfold rowD
        rw [show n - 1 - s = n - (s + 1) by omega]
      · rw [pk_un e]; exact h3 s (by omega) hs2
  have := key n M ⟨Nat.le_refl _, rfl, fun _ _ => rfl, fun s h1 h2 => by omega⟩
  rw [Nat.sub_self, Nat.pow_zero, Nat.div_one] at this
  exact this
theorem layRowM {M : Mm} {n k : Nat} {Q : Mm → Prop} (hn : n ≤ 3) (h31 : gi M 31 = nI n) (hk : k ≤ 216) (q : ∀ M', gi M' = gi M → (∀ j, j ≠ 47 → ga M' j = ga M j) → (∀ s, s < n → ga M' 47 s = nI (rowD n k s)) → Q M') : wX7_layRow (nI k) Q M := by
  unfold wX7_layRow
  rw [h31]
  have key : ∀ j (m : Mm), (j ≤ n ∧ gi m = gi M ∧ (∀ j, j ≠ 47 → ga m j = ga M j) ∧ ∀ s, j ≤ s → s < n → ga m 47 s = nI (rowD n k s)) → lX7_layRow_9 Q (nI (k / 6 ^ (n - j))) (nI j - 1) m := by
    refine down_loop (fun j m => lX7_layRow_9 Q (nI (k / 6 ^ (n - j))) (nI j - 1) m) (fun j m => j ≤ n ∧ gi m = gi M ∧ (∀ j, j ≠ 47 → ga m j = ga M j) ∧ ∀ s, j ≤ s → s < n → ga m 47 s = nI (rowD n k s)) ?_ ?_
    · rintro m ⟨_, h1, h2, h3⟩
      exact lX7_layRow_9_mk _ _ _ _ (br_t (by decide) (q m h1 h2 (fun s hs => h3 s (Nat.zero_le _) hs)))
    · rintro j m ⟨h0, h1, h2, h3⟩ ih
      have hle : k / 6 ^ (n - (j + 1)) ≤ k := Nat.div_le_self _ _
      refine lX7_layRow_9_mk _ _ _ _ ?_
      rw [nI_pred]
      refine br_f (nI_pos (by omega)) ⟨vp_in_nI (by omega) (by decide), nm_e ?_⟩
      rw [nI_clamp (by omega), show (6 : Int32) = nI 6 from rfl, pk_rem (by omega) (by decide) (by decide), pk_div (by omega) (by decide) (by decide), row_div (by omega), ← Int32.sub_eq_add_neg]
      refine ih _ ⟨by omega, h1, fun i hi => by rw [ga_sa, if_neg hi]; exact h2 i hi, fun s hs hs2 => ?_⟩
      rw [ga_sa, if_pos rfl]
      by_cases e : s = j
      · subst e
        rw [pk_us]
        unfold rowD
        rw [show n - 1 - s = n - (s + 1) by omega]
      · rw [pk_un e]; exact h3 s (by omega) hs2
  have := key n M ⟨Nat.le_refl _, rfl, fun _ _ => rfl, fun s h1 h2 => by omega⟩
  rw [Nat.sub_self, Nat.pow_zero, Nat.div_one] at this
  exact this
theorem GS_cross {d : PD} {b c : Nat → Nat} {U L X Y : Int} (h : GS d b U L) (g : GS d c X Y) : ∃ D, 0 < D ∧ gainU d b (runW d b 5) * gainD (runW d c 5) - gainU d c (runW d c 5) * gainD (runW d b 5) = D * (U * Y - X * L) := by
  obtain ⟨⟨D, hD, e1, e2⟩, -⟩ := h
  obtain ⟨⟨E, hE, e3, e4⟩, -⟩ := g
  refine ⟨D * E, Int.mul_pos hD hE, ?_⟩
  rw [e1, e2, e3, e4, Int.mul_sub]
  congr 1
  · rw [Int.mul_assoc, Int.mul_assoc, Int.mul_left_comm U]
  · rw [Int.mul_assoc, Int.mul_assoc, Int.mul_left_comm X, Int.mul_left_comm E]
theorem pos_sc {D z : Int} (hD : 0 < D) : 0 < D * z ↔ 0 < z := by
  constructor
  · intro h
    rcases Int.lt_trichotomy z 0 with g | g | g
    · have := Int.mul_neg_of_pos_of_neg hD g; omega
    · rw [g, Int.mul_zero] at h; omega
    · exact g
  · exact Int.mul_pos hD
theorem best_step {d : PD} {k : Nat} {U L X Y : Int} (h : GS d (rowD (pn d) k) U L) (g : GS d (rowD (pn d) (bestI d k)) X Y) : bestI d (k + 1) = if 0 < U * Y - X * L then k else bestI d k := by
  obtain ⟨D, hD, e⟩ := GS_cross h g
  have e : gU d k * gD d (bestI d k) - gU d (bestI d k) * gD d k = D * (U * Y - X * L) := e
  have hp := pos_sc (z := U * Y - X * L) hD
  show (if gU d (bestI d k) * gD d k < gU d k * gD d (bestI d k) then k else bestI d k) = _
  by_cases c : 0 < U * Y - X * L
  · rw [if_pos c, if_pos (by have := hp.mpr c; omega)]
  · rw [if_neg c, if_neg (fun z => c (hp.mp (by omega)))]
theorem best_1 (d : PD) : bestI d 1 = 0 := by
  show (if gU d 0 * gD d 0 < gU d 0 * gD d 0 then 0 else 0) = 0
  split <;> rfl
theorem sg_le0 {z : Int} : sgI z ≤ (0 : Int32) ↔ ¬ 0 < z := by
  rcases Int.lt_trichotomy z 0 with h | h | h
  · rw [sg_m h]
    exact ⟨fun _ => by omega, fun _ => by decide⟩
  · rw [sg_0 h]
    exact ⟨fun _ => by omega, fun _ => by decide⟩
  · rw [sg_p h]
    exact ⟨fun q => absurd q (by decide), fun q => absurd h q⟩
/-- what the search for the best leaves as it was -/
def FB (M1 M : Mm) : Prop := (∀ k, (k < 18 ∨ 22 < k) → gi M1 k = gi M k) ∧ ∀ k, (k < 16 ∨ 25 < k) → (k < 41 ∨ 48 < k) → ga M1 k = ga M k
theorem fb_rf (M : Mm) : FB M M := ⟨fun _ _ => rfl, fun _ _ _ => rfl⟩
theorem fb_tr {A B C : Mm} (h : FB A B) (g : FB B C) : FB A C := ⟨fun k p => (h.1 k p).trans (g.1 k p), fun k p q => (h.2 k p q).trans (g.2 k p q)⟩
theorem fb_fr {A B : Mm} (h : FR A B) : FB A B := ⟨fun k p => h.1 k (by omega), fun k p q => h.2 k (by omega) q⟩
theorem Rel_fb {M1 M : Mm} {n c : Nat} {d : PD} (e : FB M1 M) (hO : RO M) (hS : RS M) (hn : n ≤ 3) (h14 : gi M 14 = nI n) (h31 : gi M 31 = nI n) (hQ : PQ n c M) (h1 : PDok d) (h2 : pn d = n) (h3 : PP d M) (h4 : PBa n M) (h5 : PB M) (h6 : PG d M1) : Rel M1 := by
  obtain ⟨e1, e2⟩ := e
  refine ⟨?_, fun k hk => ?_, n, c, hn, by rw [e1 14 (by decide)]; exact h14, by rw [e1 31 (by decide)]; exact h31, ?_, ?_⟩
  · unfold RO at *
    rw [e1 42 (by decide), e1 0 (by decide), e1 27 (by decide), e1 1 (by decide), e1 26 (by decide), e1 2 (by decide)]
    exact hO
  · have := hS k hk
    unfold RS1 at *
    rw [e2 8 (by decide) (by decide), e2 33 (by decide) (by decide), e2 9 (by decide) (by decide), e2 34 (by decide) (by decide), e2 35 (by decide) (by decide), e2 10 (by decide) (by decide)]
    exact this
  · unfold PQ PQ1 PL at *
    rw [e1 23 (by decide), e1 40 (by decide), e1 41 (by decide), e1 25 (by decide), e1 24 (by decide), e2 50 (by decide) (by decide), e2 26 (by decide) (by decide), e2 49 (by decide) (by decide), e2 27 (by decide) (by decide), e2 51 (by decide) (by decide), e2 28 (by decide) (by decide), e2 52 (by decide) (by decide), e2 29 (by decide) (by decide), e2 53 (by decide) (by decide), e2 30 (by decide) (by decide), e2 31 (by decide) (by decide)]
    exact hQ
  · refine Or.inr ⟨d, h1, h2, ?_, ?_, ?_, h6⟩
    · unfold PP at *
      rw [e1 11 (by decide), e1 28 (by decide), e1 12 (by decide), e1 29 (by decide), e1 13 (by decide), e1 30 (by decide), e2 13 (by decide) (by decide), e2 36 (by decide) (by decide), e2 14 (by decide) (by decide), e2 37 (by decide) (by decide)]
      exact h3
    · unfold PBa at *
      rw [e2 15 (by decide) (by decide), e2 38 (by decide) (by decide)]
      exact h4
    · unfold PB at *
      rw [e1 15 (by decide), e1 32 (by decide), e1 16 (by decide), e1 33 (by decide), e1 17 (by decide), e1 34 (by decide)]
      exact h5
/-- what the place holds, as both runs read it -/
def PH (d : PD) (M : Mm) : Prop := (gi M 14 = nI (pn d) ∧ gi M 31 = nI (pn d)) ∧ PP d M
theorem PH_fb {d : PD} {M1 M : Mm} (e : FB M1 M) (h : PH d M) : PH d M1 := by
  obtain ⟨e1, e2⟩ := e
  obtain ⟨⟨h1, h2⟩, h3⟩ := h
  refine ⟨⟨by rw [e1 14 (by decide)]; exact h1, by rw [e1 31 (by decide)]; exact h2⟩, ?_⟩
  unfold PP at *
  rw [e1 11 (by decide), e1 28 (by decide), e1 12 (by decide), e1 29 (by decide), e1 13 (by decide), e1 30 (by decide), e2 13 (by decide) (by decide), e2 36 (by decide) (by decide), e2 14 (by decide) (by decide), e2 37 (by decide) (by decide)]
  exact h3
/-- one row reckoned, in the class -/
theorem reckRow {M : Mm} {d : PD} {k : Nat} {Q : Mm → Prop} (hd : PDok d) (hp : PH d M) (hk : k ≤ 216) (q : ∀ M' U L, FR M' M → GS d (rowD (pn d) k) U L → gj M' 2 = jZ U → gj M' 3 = jZ L → (∀ s, s < pn d → ga M' 24 s = nI (rowD (pn d) k s)) → Q M') : wX0_rowBecomes (nI k) (fun M1 => wX0_reckon 24 Q M1) M := by
  obtain ⟨⟨h14, h31⟩, p11, p28, p12, p29, p13, p30, pr⟩ := hp
  refine rowBecomesC hd.2.2.2.2.1 h14 hk (fun M1 e1 e2 e3 => ?_)
  have f1 : FR M1 M := ⟨fun k _ => congrFun e1 k, fun k p _ => e2 k (by omega)⟩
  refine reckonC (d := d) (b := rowD (pn d) k) hd rfl (Or.inr rfl) (by rw [e1]; exact p12) (by rw [e1]; exact p13) (by rw [e1]; exact h14) (fun s hs => ⟨rowD_le _ _ _, e3 s hs⟩) (fun s hs => ⟨?_, ?_⟩) (fun M2 w g1 hl g2 g3 => ?_)
  · rw [e2 13 (by decide)]; exact (pr s hs).1
  · rw [e2 14 (by decide)]; exact (pr s hs).2.2.1
  · exact q M2 _ _ (fr_GC g1 f1) (GS_w hd (fun s _ => rowD_le _ _ _) hl) g2 g3 (fun s hs => by rw [g1.2 24 (by decide)]; exact e3 s hs)
/-- one row laid, in the reference -/
theorem layRow47 {M : Mm} {d : PD} {k : Nat} {Q : Mm → Prop} (hd : PDok d) (hp : PH d M) (hk : k ≤ 216) (q : ∀ M' U L, FR M' M → GS d (rowD (pn d) k) U L → gj M' 4 = jZ U → gj M' 5 = jZ L → (∀ s, s < pn d → ga M' 47 s = nI (rowD (pn d) k s)) → (ga M' 48 = ga M 48) → Q M') : wX7_layRow (nI k) (fun M1 => wX7_layGain 47 Q M1) M := by
  obtain ⟨⟨h14, h31⟩, p11, p28, p12, p29, p13, p30, pr⟩ := hp
  refine layRowM hd.2.2.2.2.1 h31 hk (fun M1 e1 e2 e3 => ?_)
  have f1 : FR M1 M := ⟨fun k _ => congrFun e1 k, fun k p q => e2 k (by omega)⟩
  refine layGainM (d := d) (b := rowD (pn d) k) hd rfl (by decide) (by rw [e1]; exact p29) (by rw [e1]; exact p30) (by rw [e1]; exact h31) (fun s hs => ⟨rowD_le _ _ _, e3 s hs⟩) (fun s hs => ⟨?_, ?_⟩) (fun M2 g2 => ?_)
  · rw [e2 36 (by decide)]; exact (pr s hs).2.1
  · rw [e2 37 (by decide)]; exact (pr s hs).2.2.2
  · refine q _ _ _ (fr_sj 5 _ (fr_sj 4 _ (fr_RG g2 f1))) (GS_rd hd (fun s _ => rowD_le _ _ _)) ?_ ?_ (fun s hs => ?_) ?_
    · rw [gj_sj, if_neg (by decide), gj_sj, if_pos rfl]
    · rw [gj_sj, if_pos rfl]
    · show ga M2 47 s = _
      rw [g2.2.1 47 (by decide)]; exact e3 s hs
    · show ga M2 48 = _
      rw [g2.2.1 48 (by decide), e2 48 (by decide)]
