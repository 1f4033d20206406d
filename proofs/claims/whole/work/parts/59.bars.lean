/-! bars -/
def FBB (M1 M : Mm) : Prop := (∀ k, (k < 18 ∨ 22 < k) → gi M1 k = gi M k) ∧ ∀ k, (k < 15 ∨ 25 < k) → (k < 38 ∨ 48 < k) → ga M1 k = ga M k
theorem bb_tr {A B C : Mm} (h : FBB A B) (g : FBB B C) : FBB A C := ⟨fun k p => (h.1 k p).trans (g.1 k p), fun k p q => (h.2 k p q).trans (g.2 k p q)⟩
theorem bb_fb {A B : Mm} (h : FB A B) : FBB A B := ⟨fun k p => h.1 k p, fun k p q => h.2 k (by omega) (by omega)⟩
theorem Rel_bb {M1 M : Mm} {n c : Nat} {d : PD} (e : FBB M1 M) (hO : RO M) (hS : RS M) (hn : n ≤ 3) (h14 : gi M 14 = nI n) (h31 : gi M 31 = nI n) (hQ : PQ n c M) (h1 : PDok d) (h2 : pn d = n) (h3 : PP d M) (h4 : PBa n M1) (h5 : PB M) (h6 : PG d M1) : Rel M1 := by
  obtain ⟨e1, e2⟩ := e
  refine ⟨?_, fun k hk => ?_, n, c, hn, by rw [e1 14 (by decide)]; exact h14, by rw [e1 31 (by decide)]; exact h31, ?_, ?_⟩
  · unfold RO at *
    rw [e1 42 (by decide), e1 0 (by decide), e1 27 (by decide), e1 1 (by decide), e1 26 (by decide), e1 2 (by decide)]
    exact hO
  · have := hS k hk
    unfold RS1 at *
    rw [e2 8 (by decide) (by decide), e2 33 (by decide) (by decide), e2 9 (by decide) (by decide), e2 34 (by decide) (by decide), e2 35 (by decide) (by decide), e2 10 (by decide) (by decide)]
    exact this
  · unfold PQ PQ1 PL at *
    rw [e1 23 (by decide), e1 40 (by decide), e1 41 (by decide), e1 25 (by decide), e1 24 (by decide), e2 50 (by decide) (by decide), e2 26 (by decide) (by decide), e2 49 (by decide) (by decide), e2 27 (by decide) (by decide), e2 51 (by decide) (by decide), e2 28 (by decide) (by decide), e2 52 (by decide) (by decide), e2 29 (by decide) (by decide), e2 53 (by decide) (by decide), e2 30 (by decide) (by decide), e2 31 (by decide) (by decide)]
    exact hQ
  · refine Or.inr ⟨d, h1, h2, ?_, h4, ?_, h6⟩
    · unfold PP at *
      rw [e1 11 (by decide), e1 28 (by decide), e1 12 (by decide), e1 29 (by decide), e1 13 (by decide), e1 30 (by decide), e2 13 (by decide) (by decide), e2 36 (by decide) (by decide), e2 14 (by decide) (by decide), e2 37 (by decide) (by decide)]
      exact h3
    · unfold PB at *
      rw [e1 15 (by decide), e1 32 (by decide), e1 16 (by decide), e1 33 (by decide), e1 17 (by decide), e1 34 (by decide)]
      exact h5
theorem PH_bb {d : PD} {M1 M : Mm} (e : FBB M1 M) (h : PH d M) : PH d M1 := by
  obtain ⟨e1, e2⟩ := e
  obtain ⟨⟨h1, h2⟩, h3⟩ := h
  refine ⟨⟨by rw [e1 14 (by decide)]; exact h1, by rw [e1 31 (by decide)]; exact h2⟩, ?_⟩
  unfold PP at *
  rw [e1 11 (by decide), e1 28 (by decide), e1 12 (by decide), e1 29 (by decide), e1 13 (by decide), e1 30 (by decide), e2 13 (by decide) (by decide), e2 36 (by decide) (by decide), e2 14 (by decide) (by decide), e2 37 (by decide) (by decide)]
  exact h3
def chN (b f : Nat → Nat) (n : Nat) : Nat := sumTo (fun s => if b s = f s then 0 else 1) n
theorem barsC {M : Mm} {n : Nat} {b f : Nat → Nat} {a : Int32} {Q : Int32 → Mm → Prop} (hn : n ≤ 3) (h14 : gi M 14 = nI n) (hb : ∀ s, s < n → b s ≤ 5 ∧ ga M 15 s = nI (b s)) (hf : ∀ s, s < n → f s ≤ 5) (hbf : ∀ s (m : Mm) (Q' : Int32 → Mm → Prop), s < n → gi m = gi M → (∀ k, k ≠ 15 → ga m k = ga M k) → Q' (nI (f s)) m → wX6_barFor (nI s) a Q' m) (q : ∀ M', gi M' = gi M → (∀ k, k ≠ 15 → ga M' k = ga M k) → (∀ s, s < n → ga M' 15 s = nI (f s)) → Q (nI (chN b f n)) M') : lX6_bars_45 a Q (0 : Int32) (0 : Int32) M := by
  rw [show (0 : Int32) = nI 0 from rfl]
  refine up_loop (fun j m => lX6_bars_45 a Q (nI (chN b f j)) (nI j) m) (fun j m => gi m = gi M ∧ (∀ k, k ≠ 15 → ga m k = ga M k) ∧ (∀ s, s < j → ga m 15 s = nI (f s)) ∧ ∀ s, j ≤ s → ga m 15 s = ga M 15 s) n ?_ ?_ 0 _ (Nat.zero_le _) ⟨rfl, fun _ _ => rfl, fun s hs => absurd hs (Nat.not_lt_zero _), fun _ _ => rfl⟩
  · rintro m ⟨h1, h2, h3, _⟩
    exact lX6_bars_45_mk _ _ _ _ _ (br_t (by rw [h1, h14]; exact nI_le (Nat.le_refl _) (by omega)) (q m h1 h2 h3))
  · rintro j m hj ⟨h1, h2, h3, h4⟩ ih
    have hbj := hb j hj
    have hfj := hf j hj
    refine lX6_bars_45_mk _ _ _ _ _ (br_f (by rw [h1, h14]; exact nI_ge hj (by omega)) (hbf j m _ hj h1 h2 (at_in (n := 3) rfl (by decide) (by omega) ?_)))
    rw [h4 j (Nat.le_refl _), hbj.2, nI_eq (by omega) (by omega), nI_1, nI_1]
    have ih := ih (sa m 15 (upd (ga m 15) j (nI (f j)))) ⟨h1, fun k hk => by rw [ga_sa, if_neg hk]; exact h2 k hk, fun s hs => by
      rw [ga_sa, if_pos rfl]
      by_cases e : s = j
      · subst e; rw [pk_us]
      · rw [pk_un e]; exact h3 s (by omega), fun s hs => by
      rw [ga_sa, if_pos rfl, pk_un (by omega)]; exact h4 s (by omega)⟩
    refine br_c (fun g => set_in (n := 3) rfl (by decide) (by omega) ?_) (fun g => set_in (n := 3) rfl (by decide) (by omega) ?_)
    · have e : chN b f (j + 1) = chN b f j := by
        show _ + (if b j = f j then 0 else 1) = _
        rw [if_pos g]; rfl
      rw [e] at ih; exact ih
    · have e : chN b f (j + 1) = chN b f j + 1 := by
        show _ + (if b j = f j then 0 else 1) = _
        rw [if_neg g]; rfl
      rw [e] at ih; exact ih
theorem barsM {M : Mm} {n : Nat} {b f : Nat → Nat} {a : Int32} {Q : Int32 → Mm → Prop} (hn : n ≤ 3) (h31 : gi M 31 = nI n) (hb : ∀ s, s < n → b s ≤ 5 ∧ ga M 38 s = nI (b s)) (hf : ∀ s, s < n → f s ≤ 5) (h0 : a = 0 → ∀ s (m : Mm) (Q' : Int32 → Mm → Prop), s < n → gi m = gi M → (∀ k, k ≠ 38 → ga m k = ga M k) → Q' (nI (f s)) m → wX7_hisBar (nI s) (gi m 32) (gi m 33) (gi m 34) Q' m) (hB : ¬ a = 0 → a = 1 → ∀ s, s < n → ga M 48 s = nI (f s)) (h5 : ¬ a = 0 → ¬ a = 1 → ∀ s, s < n → f s = 5) (q : ∀ M', gi M' = gi M → (∀ k, k ≠ 38 → ga M' k = ga M k) → (∀ s, s < n → ga M' 38 s = nI (f s)) → Q (nI (chN b f n)) M') : lX7_bars_35 a Q (0 : Int32) (0 : Int32) M := by
  rw [show (0 : Int32) = nI 0 from rfl]
  refine up_loop (fun j m => lX7_bars_35 a Q (nI (chN b f j)) (nI j) m) (fun j m => gi m = gi M ∧ (∀ k, k ≠ 38 → ga m k = ga M k) ∧ (∀ s, s < j → ga m 38 s = nI (f s)) ∧ ∀ s, j ≤ s → ga m 38 s = ga M 38 s) n ?_ ?_ 0 _ (Nat.zero_le _) ⟨rfl, fun _ _ => rfl, fun s hs => absurd hs (Nat.not_lt_zero _), fun _ _ => rfl⟩
  · rintro m ⟨h1, h2, h3, _⟩
    exact lX7_bars_35_mk _ _ _ _ _ (br_t (by rw [h1, h31]; exact nI_le (Nat.le_refl _) (by omega)) (q m h1 h2 h3))
  · rintro j m hj ⟨h1, h2, h3, h4⟩ ih
    have hbj := hb j hj
    have hfj := hf j hj
    have hc : (nI j).toNatClampNeg = j := nI_clamp (by omega)
    have hv : vp_in (nI j) 3 := vp_in_nI (by omega) (by decide)
    have ih := ih (sa m 38 (upd (ga m 38) j (nI (f j)))) ⟨h1, fun k hk => by rw [ga_sa, if_neg hk]; exact h2 k hk, fun s hs => by
      rw [ga_sa, if_pos rfl]
      by_cases e : s = j
      · subst e; rw [pk_us]
      · rw [pk_un e]; exact h3 s (by omega), fun s hs => by
      rw [ga_sa, if_pos rfl, pk_un (by omega)]; exact h4 s (by omega)⟩
    have step : ∀ v, v = nI (f j) → ((ga m 38 (nI j).toNatClampNeg) = v → (vp_in (nI j) 3 ∧ (∀ M_26 : Mm, M_26 = (sa m 38 (upd (ga m 38) (nI j).toNatClampNeg v)) → (lX7_bars_35 a Q (nI (chN b f j) + (0 : Int32)) (nI j + 1) M_26)))) ∧ (¬ (ga m 38 (nI j).toNatClampNeg) = v → (vp_in (nI j) 3 ∧ (∀ M_24 : Mm, M_24 = (sa m 38 (upd (ga m 38) (nI j).toNatClampNeg v)) → (lX7_bars_35 a Q (nI (chN b f j) + (1 : Int32)) (nI j + 1) M_24)))) := by
      rintro v rfl
      rw [hc, h4 j (Nat.le_refl _), hbj.2, nI_eq (by omega) (by omega), nI_1, nI_1]
      refine br_c (fun g => ⟨hv, nm_e ?_⟩) (fun g => ⟨hv, nm_e ?_⟩)
      · have e : chN b f (j + 1) = chN b f j := by
          show _ + (if b j = f j then 0 else 1) = _
          rw [if_pos g]; rfl
        rw [e] at ih
        rw [show nI (chN b f j) + (0 : Int32) = nI (chN b f j) from nI_add _ 0]; exact ih
      · have e : chN b f (j + 1) = chN b f j + 1 := by
          show _ + (if b j = f j then 0 else 1) = _
          rw [if_neg g]; rfl
        rw [e] at ih; exact ih
    refine lX7_bars_35_mk _ _ _ _ _ (br_f (by rw [h1, h31]; exact nI_ge hj (by omega)) (br_c (fun g => ?_) (fun g => br_c (fun g2 => ?_) (fun g2 => ?_))))
    · exact h0 g j m _ hj h1 h2 ⟨hv, step _ rfl⟩
    · refine ⟨hv, hv, step _ ?_⟩
      rw [hc, h2 48 (by decide)]; exact hB g g2 j hj
    · exact ⟨hv, step _ (by rw [h5 g g2 j hj]; rfl)⟩
theorem ok_bars {M : Mm} (a : Int32) (h : Rel M) : okI (wX6_bars a) (wX7_bars a) M := by
  unfold okI wX6_bars wX7_bars
  refine isWithin_br 0 2 rfl rfl (fun c => within_n 0 2 rfl rfl c ⟨rfl, h⟩) (fun c => ?_)
  obtain ⟨hO, hS, n, k, hn, h14, h31, hQ, hP⟩ := id h
  rcases told_cases hP with ⟨h0, h1, h2⟩ | ⟨h1, h2, d, hd, hdn, hp, ⟨b, hba⟩, hb, hg⟩
  · exact br_t h1 (within_t 0 2 rfl rfl c (br_t h2 ⟨rfl, h⟩))
  subst hdn
  have hph : PH d M := ⟨⟨h14, h31⟩, hp⟩
  refine br_f (by rw [h1]; decide) ?_
  have frC : ∀ {A B : Mm}, gi A = gi B → (∀ k, k ≠ 15 → ga A k = ga B k) → FBB A B := fun e1 e2 => ⟨fun k _ => congrFun e1 k, fun k p _ => e2 k (by omega)⟩
  have frM : ∀ {A B : Mm}, gi A = gi B → (∀ k, k ≠ 38 → ga A k = ga B k) → FBB A B := fun e1 e2 => ⟨fun k _ => congrFun e1 k, fun k p q => e2 k (by omega)⟩
  obtain ⟨r', hr, hr'⟩ := step_nat hb
  have hsd : 1 ≤ pS d ∧ pS d ≤ 11 := ⟨hd.1, hd.2.1⟩
  -- where no best is asked for
  have simple : ¬ a = 1 → ∀ f : Nat → Nat, (∀ s, s < pn d → f s ≤ 5) → (∀ s (m : Mm) (Q' : Int32 → Mm → Prop), s < pn d → gi m = gi M → (∀ k, k ≠ 15 → ga m k = ga M k) → Q' (nI (f s)) m → wX6_barFor (nI s) a Q' m) → (a = 0 → ∀ s (m : Mm) (Q' : Int32 → Mm → Prop), s < pn d → gi m = gi M → (∀ k, k ≠ 15 → k ≠ 38 → ga m k = ga M k) → Q' (nI (f s)) m → wX7_hisBar (nI s) (gi m 32) (gi m 33) (gi m 34) Q' m) → (¬ a = 0 → ∀ s, s < pn d → f s = 5) → lX6_bars_45 a (fun r M1 => wX7_within a (0 : Int32) (2 : Int32) (fun r_1 M_1 => ((r_1 = 0 → (r = (-2 : Int32) ∧ Rel M_1)) ∧ (¬ r_1 = 0 → (((gi M_1 28) = 0 → (r = (-3 : Int32) ∧ Rel M_1)) ∧ (¬ (gi M_1 28) = 0 → ((a = (1 : Int32) → (wX7_findBest (fun M_28 => (lX7_bars_35 a (fun r2 M2 => r = r2 ∧ Rel M2) (0 : Int32) (0 : Int32) M_28)) M_1)) ∧ (¬ a = (1 : Int32) → (lX7_bars_35 a (fun r2 M2 => r = r2 ∧ Rel M2) (0 : Int32) (0 : Int32) M_1)))))))) M1) (0 : Int32) (0 : Int32) M := by
    intro na f hf hbf hm h5
    refine barsC (b := b) (f := f) hn h14 (fun s hs => ⟨(hba s hs).1, (hba s hs).2.1⟩) hf hbf (fun M1 e1 e2 e3 => ?_)
    refine within_t 0 2 rfl rfl c (br_f (by rw [e1, h2]; decide) (br_f na ?_))
    refine barsM (b := b) (f := f) hn (by rw [e1]; exact h31) (fun s hs => ⟨(hba s hs).1, by rw [e2 38 (by decide)]; exact (hba s hs).2.2⟩) hf (fun z s m Q' hs g1 g2 hq => hm z s m Q' hs (g1.trans e1) (fun k p r => (g2 k r).trans (e2 k p)) hq) (fun _ z => absurd z na) (fun z _ => h5 z) (fun M2 g1 g2 g3 => ⟨rfl, ?_⟩)
    refine Rel_bb (bb_tr (frM g1 g2) (frC e1 e2)) hO hS hn h14 h31 hQ hd rfl hp ⟨f, fun s hs => ⟨hf s hs, by rw [g2 15 (by decide)]; exact e3 s hs, g3 s hs⟩⟩ hb ?_
    unfold PG at *
    rw [g1, e1, g2 25 (by decide), e2 25 (by decide)]
    exact hg
  rcases cases3 c with rfl | rfl | rfl
  · refine br_f (by decide) (simple (by decide) (fun s => hbOf (ga M 14 s) (gi M 15) (gi M 12) (gi M 13) (gi M 16) (gi M 17)) (fun s _ => hbOf_le _ _ _ _ _ _) (fun s m Q' hs g1 g2 hq => ?_) (fun _ s m Q' hs g1 g2 hq => ?_) (fun z => absurd rfl z))
    · unfold wX6_barFor
      refine br_t rfl (hisBarC_ok (by omega) (by rw [g1]; exact hp.2.2.1) (by rw [g1]; exact hr') hsd hr ?_)
      rw [g1, g2 14 (by decide)]; exact hq
    · have hpj := hp.2.2.2.2.2.2 s hs
      rw [show gi m 33 = nI r' from by rw [g1, hb.2.2.2.1, hr']]
      refine hisBarM_ok (by omega) (by rw [g1]; exact hp.2.2.2.1) hsd hr ?_
      have hq : Q' (nI (hbOf (ga M 14 s) (gi M 15) (gi M 12) (gi M 13) (gi M 16) (gi M 17))) m := hq
      rw [g1, g2 37 (by decide) (by decide), hpj.2.2.2, hp.2.2.2.1, hp.2.2.2.2.2.1, hb.2.1, hb.2.2.2.2.2]
      rw [hpj.2.2.1, hp.2.2.1, hp.2.2.2.2.1, hr'] at hq
      exact hq
  · refine br_t rfl (knowBestC hd hph hg (fun M0 f0 x1 x2 => ?_))
    have hp0 := PH_fb f0 hph
    have hfl : ∀ s, s < pn d → bestOf d s ≤ 5 := fun s _ => rowD_le _ _ _
    refine barsC (b := b) (f := bestOf d) hn hp0.1.1 (fun s hs => ⟨(hba s hs).1, by rw [f0.2 15 (by decide) (by decide)]; exact (hba s hs).2.1⟩) hfl (fun s m Q' hs g1 g2 hq => ?_) (fun M1 e1 e2 e3 => ?_)
    · unfold wX6_barFor
      refine br_f (by decide) (br_t rfl (at_in (n := 3) rfl (by decide) (by omega) ?_))
      rw [g2 25 (by decide), x2 s hs]; exact hq
    · have hp1 := PH_bb (frC e1 e2) hp0
      refine within_t 0 2 rfl rfl c (br_f (by rw [hp1.2.2.1]; decide) (br_t rfl (findBestM hd hp1 (fun M2 f2 x3 => ?_))))
      have hp2 := PH_fb (fb_fr f2) hp1
      refine barsM (b := b) (f := bestOf d) hn hp2.1.2 (fun s hs => ⟨(hba s hs).1, ?_⟩) hfl (fun z => absurd z (by decide)) (fun _ _ => x3) (fun _ z => absurd rfl z) (fun M3 g1 g2 g3 => ⟨rfl, ?_⟩)
      · rw [f2.2 38 (by decide) (by decide), e2 38 (by decide), f0.2 38 (by decide) (by decide)]; exact (hba s hs).2.2
      refine Rel_bb (bb_tr (frM g1 g2) (bb_tr (bb_fb (fb_fr f2)) (bb_tr (frC e1 e2) (bb_fb f0)))) hO hS hn h14 h31 hQ hd rfl hp ⟨bestOf d, fun s hs => ⟨hfl s hs, ?_, g3 s hs⟩⟩ hb (Or.inr ⟨?_, fun s hs => ?_⟩)
      · rw [g2 15 (by decide), f2.2 15 (by decide) (by decide)]; exact e3 s hs
      · rw [g1, f2.1 22 (by decide), e1]; exact x1
      · rw [g2 25 (by decide), f2.2 25 (by decide) (by decide), e2 25 (by decide)]; exact x2 s hs
  · refine br_f (by decide) (simple (by decide) (fun _ => 5) (fun s _ => Nat.le_refl _) (fun s m Q' hs g1 g2 hq => ?_) (fun z => absurd z (by decide)) (fun _ _ _ => rfl))
    unfold wX6_barFor
    exact br_f (by decide) (br_f (by decide) hq)
