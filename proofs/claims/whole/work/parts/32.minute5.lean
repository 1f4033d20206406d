theorem xr_none {M M1 : Mm} {f' : Nat → Int32} {r6 ans : Int32} {Q : Int32 → Mm → Prop} (hre : RE M1 M) (h : TR r6 ans Q (sa (sa (sa M1 51 f') 50 (ga M 50)) 53 (ga M 53))) : TR r6 ans Q (sa M1 51 f') := by
  rw [← hre.2 50 (by decide), ← hre.2 53 (by decide)] at h
  have e1 : sa (sa M1 51 f') 50 (ga M1 50) = sa M1 51 f' := sa_self (sa M1 51 f') 50
  have e2 : sa (sa M1 51 f') 53 (ga M1 53) = sa M1 51 f' := sa_self (sa M1 51 f') 53
  rw [e1, e2] at h
  exact h
theorem mid_none (M : Mm) (f : Nat → Int32) : sa M 28 f = si (sa (sa (sa (sa M 28 f) 31 (ga M 31)) 26 (ga M 26)) 30 (ga M 30)) 24 (gi M 24) := by
  have e1 : sa (sa M 28 f) 31 (ga M 31) = sa M 28 f := sa_self (sa M 28 f) 31
  have e2 : sa (sa M 28 f) 26 (ga M 26) = sa M 28 f := sa_self (sa M 28 f) 26
  have e3 : sa (sa M 28 f) 30 (ga M 30) = sa M 28 f := sa_self (sa M 28 f) 30
  have e4 : si (sa M 28 f) 24 (gi M 24) = sa M 28 f := si_self (sa M 28 f) 24
  rw [e1, e2, e3, e4]
theorem minute_core {M : Mm} {n c v : Nat} {a1 r6 : Int32} {d : PD} {ba : Nat → Nat} (hO : RO M) (hS : RS M) (hn : n ≤ 3) (h14 : gi M 14 = nI n) (h31 : gi M 31 = nI n) (hQ : PQ n c M) (hP : RP n M) (hd : PDok d) (hdn : pn d = n) (hp : PP d M) (hba : ∀ s, s < n → ba s ≤ 5 ∧ ga M 15 s = nI (ba s) ∧ ga M 38 s = nI (ba s)) (c1 : inI a1 0 11) (c2 : inI (nI v) 0 11) (hv : v ≤ 11)
    (hr6 : (r6 = -9 ∧ ∀ s, s < n → ¬ v < sumTo (pT d) (s + 1)) ∨ ∃ t, r6 = nI t ∧ drawn (pT d) n v t ∧ c < 40) :
    wX3_allWait (fun M8 => XC a1 r6 (fun r M1 => wX7_minute a1 (nI v) (fun r2 M2 => r = r2 ∧ Rel M2) M1) M8) M := by
  obtain ⟨hc, h23, h40, h41, hq, hl⟩ := id hQ
  obtain ⟨l5, l24, l31⟩ := id hl
  have hr6' : r6 = -9 ∨ ∃ t, r6 = nI t ∧ t < n ∧ c < 40 := by
    rcases hr6 with ⟨h, -⟩ | ⟨t, h1, h2, h3⟩
    · exact Or.inl h
    · exact Or.inr ⟨t, h1, h2.1, h3⟩
  have hso27 : ∀ x, x < c → ∃ t, t < 3 ∧ ga M 27 x = nI t := fun x hx => by
    obtain ⟨t, h1, h2⟩ := (hq x hx).2.2.2.1
    exact ⟨t, by omega, h2⟩
  have hso49 : ∀ x, x < c → ∃ t, t < 3 ∧ ga M 49 x = nI t := fun x hx => by
    obtain ⟨t, h1, h2⟩ := hso27 x hx
    exact ⟨t, h1, by rw [(hq x hx).2.2.1]; exact h2⟩
  have hw : ∀ x, x < c → wsR M x = wsC M x := fun x hx => by
    obtain ⟨t, h1, h2⟩ := (hq x hx).2.2.2.1
    unfold wsR wsC
    rw [(hq x hx).2.2.1, h2, nI_clamp (by omega), (hp.2.2.2.2.2.2 t (by omega)).2.2.2, (hp.2.2.2.2.2.2 t (by omega)).2.2.1]
  have ho42 : gi M 42 = 0 ∨ gi M 42 = 1 ∨ gi M 42 = 2 := by rw [hO.1]; exact hO.2.2.2
  have hst50 : stan (ga M 50) c = stan (ga M 26) c := stan_congr (fun j hj => by rw [(hq j hj).1])
  have hk : ∀ j, j < c → ga M 50 j = ga M 26 j := fun j hj => (hq j hj).1
  have go : ∀ (Q : Int32 → Mm → Prop) (M1 : Mm), RE M1 M → (∀ f, wspec M c f → XR a1 r6 (oNo (selL (gi M 42) (wsC M) (stan (ga M 50) c))) Q (sa M1 51 f)) → wX7_minute a1 (nI v) Q M1 := fun Q M1 hre q => ref_go hre hd hdn hn hp h31 hc h40 ho42 hso49 hw c1 c2 hv hr6 q
  refine allWait_ok hc hl (fun f hf => ?_)
  have hpq0 : ∀ f', wspec M c f' → PQf n c (ga M 26) (ga M 27) f (ga M 29) (ga M 30) (ga M 31) (gi M 24) (ga M 50) (ga M 49) f' (ga M 52) (ga M 53) := fun f' hf' => pqf_wait (pq_to hQ) hf hf'
  unfold XC
  refine br_c (fun z => ?_) (fun z => br_c (fun z2 => ?_) (fun z2 => ?_))
  · have hL : stan (ga M 26) c = [] := by
      have z' : gi M 24 ≤ 0 := z
      rw [l24] at z'
      rcases Nat.eq_zero_or_pos (stan (ga M 26) c).length with g | g
      · exact List.length_eq_zero_iff.mp g
      · exact absurd z' (nI_nle g (by omega))
    rw [mid_none M f]
    refine tail_go hO hS hn h14 h31 hP hba hc h23 h40 h41 l24 l5 hk hpq0 hr6' _ (fun Q M1 hre h => go Q M1 hre (fun f' hf' => ?_))
    unfold XR
    rw [hst50, hL]
    exact br_t rfl (xr_none hre (h f' hf'))
  · have hL : stan (ga M 26) c ≠ [] := by
      intro g
      apply z
      show gi M 24 ≤ 0
      rw [l24, g]
      decide
    rw [mid_none M f]
    refine tail_go hO hS hn h14 h31 hP hba hc h23 h40 h41 l24 l5 hk hpq0 hr6' _ (fun Q M1 hre h => go Q M1 hre (fun f' hf' => ?_))
    unfold XR
    rw [hst50]
    obtain ⟨y, h1, h2⟩ := selL_some (gi M 42) (wsC M) _ hL
    have hy := (stan_mem.mp h2).1
    rw [h1]
    refine br_f (oNo_ne (by omega)) (br_t ?_ (xr_none hre (h f' hf')))
    show gi M1 29 ≤ a1
    rw [hre.1 29 (by decide), hp.2.2.2.1, ← hp.2.2.1]
    exact z2
  · have hL : stan (ga M 26) c ≠ [] := by
      intro g
      apply z
      show gi M 24 ≤ 0
      rw [l24, g]
      decide
    refine nextBy_ok (M := sa M 28 f) (c := c) hc hl hO.2.2.2 hL hso27 (fun i x hx hsel => ?_)
    have hx : (stan (ga M 26) c)[i]? = some x := hx
    have hi := (List.getElem?_eq_some_iff.mp hx).1
    have hxc := (stan_mem.mp (List.mem_of_getElem? hx)).1
    refine serve_ok (M := sa M 28 f) (c := c) hc hl hx (fun f31 hf31 => ?_)
    show TC r6 (100 * (nI x + 1)) _ (si (sa (sa (sa (sa M 28 f) 31 f31) 26 (upd (ga M 26) x 2)) 30 (upd (ga M 30) x (gi M 25))) 24 (nI ((stan (ga M 26) c).length - 1)))
    have hgo : stan (upd (ga M 26) x 2) c = (stan (ga M 26) c).eraseIdx i := stan_go hx (fun j _ e => pk_un e) (by rw [pk_us]; decide)
    refine tail_go (k50 := upd (ga M 50) x 2) (k53 := upd (ga M 53) x (gi M 41)) hO hS hn h14 h31 hP hba hc h23 h40 h41 ?_ ?_ (fun j hj => ?_) (fun f' hf' => ?_) hr6' _ (fun Q M1 hre h => go Q M1 hre (fun f' hf' => ?_))
    · rw [hgo, List.length_eraseIdx, if_pos hi]
    · rw [hgo, List.length_eraseIdx, if_pos hi]; omega
    · by_cases e : j = x
      · subst e; rw [pk_us, pk_us]
      · rw [pk_un e, pk_un e]; exact hk j hj
    · rw [h41]
      exact pqf_serve (hpq0 f' hf') hx hf31
    · unfold XR
      have hsel' : selL (gi M 42) (wsC M) (stan (ga M 26) c) = some x := by rw [hO.1]; exact hsel
      have hv40 : vp_in (nI x) 40 := vp_in_nI (by omega) (by decide)
      have hcl : (nI x).toNatClampNeg = x := nI_clamp (by omega)
      rw [hst50, hsel', show oNo (some x) = nI x from rfl, hcl]
      refine br_f (oNo_ne (by omega)) (br_f ?_ ⟨hv40, nm_e ⟨hv40, nm_e ?_⟩⟩)
      · show ¬ gi M1 29 ≤ a1
        rw [hre.1 29 (by decide), hp.2.2.2.1, ← hp.2.2.1]
        exact z2
      · have e50 : ga (sa M1 51 f') 50 = ga M 50 := hre.2 50 (by decide)
        have e53 : ga (sa (sa M1 51 f') 50 (upd (ga M 50) x 2)) 53 = ga M 53 := hre.2 53 (by decide)
        have e41 : gi (sa (sa M1 51 f') 50 (upd (ga M 50) x 2)) 41 = gi M 41 := hre.1 41 (by decide)
        rw [e50, e53, e41]
        exact h f' hf'
theorem ok_minute {M : Mm} (a1 a2 : Int32) (h : Rel M) : okI (wX6_minute a1 a2) (wX7_minute a1 a2) M := by
  unfold okI wX6_minute
  refine isWithin_br 0 11 rfl rfl (fun c => ?_) (fun c1 => ?_)
  · unfold wX7_minute
    exact within_n 0 11 rfl rfl c ⟨rfl, h⟩
  refine isWithin_br 0 11 rfl rfl (fun c => ?_) (fun c2 => ?_)
  · unfold wX7_minute
    exact within_t 0 11 rfl rfl c1 (within_n 0 11 rfl rfl c ⟨rfl, h⟩)
  obtain ⟨hO, hS, n, c, hn, h14, h31, hQ, hP⟩ := id h
  rcases told_cases hP with ⟨h0, h1, h2⟩ | ⟨h1, h2, d, hd, hdn, hp, ⟨ba, hba⟩, hb, hg⟩
  · unfold wX7_minute
    exact br_t h1 (within_t 0 11 rfl rfl c1 (within_t 0 11 rfl rfl c2 (br_t h2 ⟨rfl, h⟩)))
  obtain ⟨v, hv, rfl⟩ := inI_nI c2 (n := 11) rfl
  have hsum : sumTo (pT d) n ≤ 11 := by rw [← hdn]; exact hd.2.2.2.2.2.2.1
  have hT : ∀ s, s < n → ga M 13 s = nI (pT d s) := fun s hs => (hp.2.2.2.2.2.2 s (by omega)).1
  have hT' : ∀ s, s < n → ga M 36 s = nI (pT d s) := fun s hs => (hp.2.2.2.2.2.2 s (by omega)).2.1
  refine br_f (by rw [h1]; decide) (sortDrawn_ok hn h14 hT hsum hv (fun t ht => ?_) (fun hnone => ?_))
  · refine br_f (oNo_ne (by have := ht.1; omega)) ?_
    unfold wX3_isFull
    obtain ⟨hc, h23, h40, -⟩ := id hQ
    refine br_c (fun g => br_t rfl ?_) (fun g => br_f one_ne ?_)
    · rw [h23, show (40 : Int32) = nI 40 from rfl, nI_ltI (by omega) (by decide)] at g
      exact minute_core hO hS hn h14 h31 hQ hP hd hdn hp hba c1 c2 hv (Or.inr ⟨t, rfl, ht, g⟩)
    · rw [h23, show (40 : Int32) = nI 40 from rfl, nI_ltI (by omega) (by decide)] at g
      unfold wX7_minute
      refine within_t 0 11 rfl rfl c1 (within_t 0 11 rfl rfl c2 (br_f (by rw [h2]; decide) (sortBy_ok hn h31 hT' hsum hv (fun t' ht' => ?_) (fun hnone => absurd ht.2.1 (hnone t ht.1)))))
      refine br_f (oNo_ne (by have := ht'.1; omega)) (br_t ?_ ⟨rfl, h⟩)
      rw [h40, show (40 : Int32) = nI 40 from rfl, nI_eq (by omega) (by decide)]
      omega
  · exact br_t rfl (minute_core hO hS hn h14 h31 hQ hP hd hdn hp hba c1 c2 hv (Or.inl ⟨rfl, hnone⟩))
