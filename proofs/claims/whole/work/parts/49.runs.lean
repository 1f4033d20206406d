/-! the long run on both sides -/
def FR (M1 M : Mm) : Prop := (∀ k, (k < 18 ∨ 21 < k) → gi M1 k = gi M k) ∧ ∀ k, (k < 16 ∨ 24 < k) → (k < 41 ∨ 48 < k) → ga M1 k = ga M k
theorem fr_tr {A B C : Mm} (h : FR A B) (g : FR B C) : FR A C := ⟨fun k p => (h.1 k p).trans (g.1 k p), fun k p q => (h.2 k p q).trans (g.2 k p q)⟩
theorem Rel_fr {M1 M : Mm} (e : FR M1 M) (h : Rel M) : Rel M1 := by
  obtain ⟨hO, hS, n, c, hn, h14, h31, hQ, hP⟩ := h
  obtain ⟨e1, e2⟩ := e
  refine ⟨?_, fun k hk => ?_, n, c, hn, by rw [e1 14 (by decide)]; exact h14, by rw [e1 31 (by decide)]; exact h31, ?_, ?_⟩
  · unfold RO at *
    rw [e1 42 (by decide), e1 0 (by decide), e1 27 (by decide), e1 1 (by decide), e1 26 (by decide), e1 2 (by decide)]
    exact hO
  · have := hS k hk
    unfold RS1 at *
    rw [e2 8 (by decide) (by decide), e2 33 (by decide) (by decide), e2 9 (by decide) (by decide), e2 34 (by decide) (by decide), e2 35 (by decide) (by decide), e2 10 (by decide) (by decide)]
    exact this
  · unfold PQ PQ1 PL at *
    rw [e1 23 (by decide), e1 40 (by decide), e1 41 (by decide), e1 25 (by decide), e1 24 (by decide), e2 50 (by decide) (by decide), e2 26 (by decide) (by decide), e2 49 (by decide) (by decide), e2 27 (by decide) (by decide), e2 51 (by decide) (by decide), e2 28 (by decide) (by decide), e2 52 (by decide) (by decide), e2 29 (by decide) (by decide), e2 53 (by decide) (by decide), e2 30 (by decide) (by decide), e2 31 (by decide) (by decide)]
    exact hQ
  · rcases hP with ⟨h0, h1, h2⟩ | ⟨d, h1, h2, h3, h4, h5, h6⟩
    · exact Or.inl ⟨h0, by rw [e1 11 (by decide)]; exact h1, by rw [e1 28 (by decide)]; exact h2⟩
    · refine Or.inr ⟨d, h1, h2, ?_, ?_, ?_, ?_⟩
      · unfold PP at *
        rw [e1 11 (by decide), e1 28 (by decide), e1 12 (by decide), e1 29 (by decide), e1 13 (by decide), e1 30 (by decide), e2 13 (by decide) (by decide), e2 36 (by decide) (by decide), e2 14 (by decide) (by decide), e2 37 (by decide) (by decide)]
        exact h3
      · unfold PBa at *
        rw [e2 15 (by decide) (by decide), e2 38 (by decide) (by decide)]
        exact h4
      · unfold PB at *
        rw [e1 15 (by decide), e1 32 (by decide), e1 16 (by decide), e1 33 (by decide), e1 17 (by decide), e1 34 (by decide)]
        exact h5
      · unfold PG at *
        rw [e1 22 (by decide), e2 25 (by decide) (by decide)]
        exact h6
/-- weights that stand for those of the place: of one share each -/
def LK (d : PD) (b : Nat → Nat) (w : Nat → Int) : Prop := (∃ D, 0 < D ∧ ∀ i, runW d b 5 i = D * w i) ∧ (∀ i, 0 ≤ w i ∧ w i ≤ 61917364224) ∧ 0 < w 0 ∧ w 6 = 0
theorem LK_m {d : PD} (hd : PDok d) (b : Nat → Nat) {m : Nat} (hm : m ≤ 5) (h : m = 5 ∨ upI (pS d) (joinN d b) m = 0) : LK d b (wtS (pS d) 12 (joinN d b) m) := by
  have hJ := Jok_d hd b
  have he : ∀ k, 0 < k → 0 < dnI (pS d) 12 (joinN d b) k := fun k hk => (dnI_rg hJ k).2.2 hk
  refine ⟨?_, fun i => ⟨?_, ?_⟩, wtI_0 he m, wtI_out (by omega)⟩
  · rcases h with rfl | h
    · exact ⟨1, by decide, fun i => by rw [Int.one_mul]; rfl⟩
    · refine ⟨upE (dnI (pS d) 12 (joinN d b)) m (5 - m), upE_pos he _, fun i => ?_⟩
      have := wt_stop (e := dnI (pS d) 12 (joinN d b)) h (5 - m) i
      rw [show m + (5 - m) = 5 by omega] at this
      exact this
  · exact wtI_nn (fun k => (upI_rg hJ k).1) (fun k => (dnI_rg hJ k).1) m i
  · have hbd := wtI_bd (u := upI (pS d) (joinN d b)) (e := dnI (pS d) 12 (joinN d b)) (B := 144) (by decide) (fun k => (upI_rg hJ k).1) (fun k => (dnI_rg hJ k).1) (fun k => by have := (upI_rg hJ k).2; omega) (fun k => by have := (dnI_rg hJ k).2.1; omega) m i
    have hp : (144 : Int) ^ m ≤ 61917364224 := by
      rcases (show m = 0 ∨ m = 1 ∨ m = 2 ∨ m = 3 ∨ m = 4 ∨ m = 5 by omega) with rfl | rfl | rfl | rfl | rfl | rfl <;> decide
    exact Int.le_trans hbd hp
theorem LK_5 {d : PD} (hd : PDok d) (b : Nat → Nat) : LK d b (runW d b 5) := LK_m hd b (Nat.le_refl _) (Or.inl rfl)
theorem tot_eq (w : Nat → Int) : totI w = w 0 + w 1 + w 2 + w 3 + w 4 + w 5 := by
  show 0 + w 0 + w 1 + w 2 + w 3 + w 4 + w 5 = _
  omega
theorem mean_eq (w : Nat → Int) : meanI w = w 1 + 2 * w 2 + 3 * w 3 + 4 * w 4 + 5 * w 5 := by
  show 0 + ((0 : Nat) : Int) * w 0 + ((1 : Nat) : Int) * w 1 + ((2 : Nat) : Int) * w 2 + ((3 : Nat) : Int) * w 3 + ((4 : Nat) : Int) * w 4 + ((5 : Nat) : Int) * w 5 = _
  omega
theorem LK_tot {d : PD} {b : Nat → Nat} {w : Nat → Int} (h : LK d b w) : 0 < totI w ∧ totI w ≤ 371504185344 := by
  rw [tot_eq]
  have h0 := h.2.1 0
  have h1 := h.2.1 1
  have h2 := h.2.1 2
  have h3 := h.2.1 3
  have h4 := h.2.1 4
  have h5 := h.2.1 5
  have := h.2.2.1
  omega
theorem allWM {M : Mm} {w : Nat → Int} {Q : Int64 → Mm → Prop} (hw : ∀ i, i < 8 → gb M 44 i = jZ (w i)) (q : Q (jZ (totI w)) M) : wX7_allWeights Q M := by
  unfold wX7_allWeights
  rw [show (0 : Int32) = nI 0 from rfl]
  refine up_loop (fun j (_ : Unit) => lX7_allWeights_4 Q (jZ (sumI w j)) (nI j) M) (fun _ _ => True) 6 ?_ ?_ 0 () (Nat.zero_le _) trivial
  · rintro _ -
    exact lX7_allWeights_4_mk _ _ _ _ (br_t (by decide) q)
  · rintro j _ hj - ih
    refine lX7_allWeights_4_mk _ _ _ _ (br_f (nI_nlt (a := 5) (by omega) (by omega)) ⟨vp_in_nI (by omega) (by decide), ?_⟩)
    rw [nI_clamp (by omega), hw j (by omega), jZ_add, nI_1]
    exact ih () trivial
theorem meanWM {M : Mm} {w : Nat → Int} {Q : Int64 → Mm → Prop} (hw : ∀ i, i < 8 → gb M 44 i = jZ (w i)) (q : Q (jZ (meanI w)) M) : wX7_meanWeights Q M := by
  unfold wX7_meanWeights
  rw [show (0 : Int32) = nI 0 from rfl]
  refine up_loop (fun j (_ : Unit) => lX7_meanWeights_4 Q (jZ (sumI (fun i => (i : Int) * w i) j)) (nI j) M) (fun _ _ => True) 6 ?_ ?_ 0 () (Nat.zero_le _) trivial
  · rintro _ -
    exact lX7_meanWeights_4_mk _ _ _ _ (br_t (by decide) q)
  · rintro j _ hj - ih
    refine lX7_meanWeights_4_mk _ _ _ _ (br_f (nI_nlt (a := 5) (by omega) (by omega)) ⟨vp_in_nI (by omega) (by decide), ?_⟩)
    rw [nI_clamp (by omega), hw j (by omega), nI_l (by omega), jZ_N, jZ_mul, jZ_add, nI_1]
    exact ih () trivial
theorem meanWC {M : Mm} {o : Nat} {w : Nat → Int} {Q : Int64 → Mm → Prop} (ho : o < 2) (hw : ∀ i, i < 6 → gb M (17 + 4 * o) i = jZ (w i)) (q : Q (jZ (meanI w)) M) : wX1_lengthsByWeight o Q M := by
  unfold wX1_lengthsByWeight
  rw [show (0 : Int32) = nI 0 from rfl]
  refine up_loop (fun j (_ : Unit) => lX1_lengthsByWeight_4 o Q (jZ (sumI (fun i => (i : Int) * w i) j)) (nI j) M) (fun _ _ => True) 6 ?_ ?_ 0 () (Nat.zero_le _) trivial
  · rintro _ -
    exact lX1_lengthsByWeight_4_mk _ _ _ _ _ (br_t (by decide) q)
  · rintro j _ hj - ih
    refine lX1_lengthsByWeight_4_mk _ _ _ _ _ (br_f (nI_ge (b := 6) hj (by omega)) (atJ_in (n := 6) (len17 ho) (by decide) hj ?_))
    rw [hw j hj, nI_l (by omega), jZ_N, jZ_mul, jZ_add, nI_1]
    exact ih () trivial
/-- both runs of the bars that stand -/
theorem runs {M : Mm} {d : PD} {n : Nat} {b : Nat → Nat} {W7 : (Int64 → Mm → Prop) → Mm → Prop} {Q : Mm → Prop} (hd : PDok d) (hdn : pn d = n) (hp : PP d M) (h14 : gi M 14 = nI n) (hba : ∀ s, s < n → b s ≤ 5 ∧ ga M 15 s = nI (b s) ∧ ga M 38 s = nI (b s)) (q : ∀ M' w, FR M' M → gi M' (18 + 2 * 0) = nI (pS d) → (∀ k, ga M' k = ga M k ∨ k = 16) → LK d b w → gj M' 0 = jZ (totI w) → (∀ i, i < 6 → gb M' 17 i = jZ (w i)) → RCn 0 d b M' M' → Q M') : wX1_comeByBars 0 15 Q M := by
  refine comeC (o := 0) (d := d) (b := b) (by decide) hd rfl (Or.inl rfl) hp.2.2.1 (by rw [hdn]; exact h14) (fun s hs => ⟨(hba s (by omega)).1, (hba s (by omega)).2.1⟩) (fun s hs => (hp.2.2.2.2.2.2 s hs).1) (fun M' h1 h2 h3 h4 hr => ?_)
  obtain ⟨_, hj, m, hm, hm2, ht, hw⟩ := id hr
  exact q M' _ ⟨fun k hk => h1 k (by omega) (by omega), fun k hk _ => h2 k (by omega)⟩ hj.1 (fun k => by
    by_cases e : k = 16
    · exact Or.inr e
    · exact Or.inl (h2 k (by omega))) (LK_m hd b hm hm2) ht hw hr
