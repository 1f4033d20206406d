def RE (M1 M : Mm) : Prop := (∀ k, 26 ≤ k → gi M1 k = gi M k) ∧ ∀ k, 33 ≤ k → ga M1 k = ga M k
theorem re_rf (M : Mm) : RE M M := ⟨fun _ _ => rfl, fun _ _ => rfl⟩
theorem re_si {M1 M : Mm} {j : Nat} {v : Int32} (h : RE M1 M) (hj : j < 26) : RE (si M1 j v) M := ⟨fun k hk => by rw [gi_si, if_neg (by omega)]; exact h.1 k hk, fun k hk => h.2 k hk⟩
theorem re_sa {M1 M : Mm} {j : Nat} {f : Nat → Int32} (h : RE M1 M) (hj : j < 33) : RE (sa M1 j f) M := ⟨fun k hk => h.1 k hk, fun k hk => by rw [ga_sa, if_neg (by omega)]; exact h.2 k hk⟩
theorem pq_to {M : Mm} {n c : Nat} (h : PQ n c M) : PQf n c (ga M 26) (ga M 27) (ga M 28) (ga M 29) (ga M 30) (ga M 31) (gi M 24) (ga M 50) (ga M 49) (ga M 51) (ga M 52) (ga M 53) := ⟨h.1, h.2.2.2.2.1, h.2.2.2.2.2.1, h.2.2.2.2.2.2.1, h.2.2.2.2.2.2.2⟩
theorem pq_of {M : Mm} {n c : Nat} (h : PQf n c (ga M 26) (ga M 27) (ga M 28) (ga M 29) (ga M 30) (ga M 31) (gi M 24) (ga M 50) (ga M 49) (ga M 51) (ga M 52) (ga M 53)) (h23 : gi M 23 = nI c) (h40 : gi M 40 = nI c) (h41 : gi M 41 = gi M 25) : PQ n c M := ⟨h.1, h23, h40, h41, h.2.1, h.2.2.1, h.2.2.2.1, h.2.2.2.2⟩
def wspec (M : Mm) (c : Nat) (f : Nat → Int32) : Prop := ∀ x, x < c → f x = if ga M 50 x = 1 then ga M 51 x + 1 else ga M 51 x
theorem tail_go {M : Mm} {n c : Nat} {f28 f31 f26 f30 k50 k53 : Nat → Int32} {st r6 ans : Int32} {ba : Nat → Nat} (hO : RO M) (hS : RS M) (hn : n ≤ 3) (h14 : gi M 14 = nI n) (h31 : gi M 31 = nI n) (hp : RP n M) (hba : ∀ s, s < n → ba s ≤ 5 ∧ ga M 15 s = nI (ba s) ∧ ga M 38 s = nI (ba s)) (hc : c ≤ 40) (h23 : gi M 23 = nI c) (h40 : gi M 40 = nI c) (h41 : gi M 41 = gi M 25)
    (hst : st = nI (stan f26 c).length) (h5 : (stan f26 c).length ≤ 5) (hk : ∀ j, j < c → k50 j = f26 j)
    (hpq : ∀ f', wspec M c f' → PQf n c f26 (ga M 27) f28 (ga M 29) f30 f31 st k50 (ga M 49) f' (ga M 52) k53)
    (hr6 : r6 = -9 ∨ ∃ t, r6 = nI t ∧ t < n ∧ c < 40) (V : (Int32 → Mm → Prop) → Mm → Prop)
    (goR : ∀ (Q : Int32 → Mm → Prop) (M1 : Mm), RE M1 M → (∀ f', wspec M c f' → TR r6 ans Q (sa (sa (sa M1 51 f') 50 k50) 53 k53)) → V Q M1) :
    TC r6 ans (fun r M1 => V (fun r2 M2 => r = r2 ∧ Rel M2) M1) (si (sa (sa (sa (sa M 28 f28) 31 f31) 26 f26) 30 f30) 24 st) := by
  unfold TC
  have re0 : RE (si (sa (sa (sa (sa M 28 f28) 31 f31) 26 f26) 30 f30) 24 st) M := re_si (re_sa (re_sa (re_sa (re_sa (re_rf M) (by decide)) (by decide)) (by decide)) (by decide)) (by decide)
  rcases hr6 with rfl | ⟨t, rfl, ht, hc40⟩
  · refine br_t rfl (nm_e (goR _ _ (re_si re0 (by decide)) (fun f' hf' => ?_)))
    unfold TR
    refine br_t rfl (nm_e ⟨rfl, hO, hS, n, c, hn, h14, h31, pq_of (hpq f' hf') h23 h40 ?_, hp⟩)
    show gi M 41 + 1 = gi M 25 + 1
    rw [h41]
  · have hne : ¬ nI t = -9 := oNo_ne (by omega)
    obtain ⟨b5, b15, b38⟩ := hba t ht
    have hv3 : vp_in (nI t) 3 := vp_in_nI (by omega) (by decide)
    have hclt : (nI t).toNatClampNeg = t := nI_clamp (by omega)
    have hst2 : stan k50 c = stan f26 c := stan_congr (fun j hj => by rw [hk j hj])
    refine br_f hne (at_in (n := 3) rfl (by decide) (by omega) ?_)
    rw [show ga (si (sa (sa (sa (sa M 28 f28) 31 f31) 26 f26) 30 f30) 24 st) 15 t = nI (ba t) from b15]
    rcases Nat.lt_or_ge (stan f26 c).length (ba t) with g | g
    · refine comes_1 (n := (stan f26 c).length) hc40 h23 hst b5 g (br_f one_ne (nm_e (goR _ _ ?_ (fun f' hf' => ?_))))
      · exact re_si (re_si (re_si (re_sa (re_sa (re_sa (re_sa (re_sa (re_sa re0 (by decide)) (by decide)) (by decide)) (by decide)) (by decide)) (by decide)) (by decide)) (by decide)) (by decide)
      · unfold TR
        refine br_f hne (standing_ok (c := c) hc h40 ⟨hv3, ?_⟩)
        rw [hclt]
        refine br_f ?_ (CM_ok (c := c) hc40 h40 ⟨rfl, hO, hS, n, c + 1, hn, h14, h31, ?_, hp⟩)
        · show ¬ ga M 38 t ≤ nI (stan k50 c).length
          rw [b38, hst2]; exact nI_ge g (by omega)
        · refine pq_of ?_ rfl rfl ?_
          · show PQf n (c + 1) (upd f26 c 1) (upd (ga M 27) c (nI t)) (upd f28 c 0) (upd (ga M 29) c (gi M 25)) (upd f30 c (-9)) (upd f31 (stan f26 c).length (nI c)) (nI ((stan f26 c).length + 1)) (upd k50 c 1) (upd (ga M 49) c (nI t)) (upd f' c 0) (upd (ga M 52) c (gi M 41)) (upd k53 c (-9))
            rw [h41]
            exact pqf_come1 (hpq f' hf') hc40 ht (by omega)
          · show gi M 41 + 1 = gi M 25 + 1
            rw [h41]
    · refine comes_0 (n := (stan f26 c).length) hc40 h23 hst h5 g (br_t rfl (nm_e (goR _ _ ?_ (fun f' hf' => ?_))))
      · exact re_si (re_si (re_sa (re_sa (re_sa (re_sa (re_sa re0 (by decide)) (by decide)) (by decide)) (by decide)) (by decide)) (by decide)) (by decide)
      · unfold TR
        refine br_f hne (standing_ok (c := c) hc h40 ⟨hv3, ?_⟩)
        rw [hclt]
        refine br_t ?_ (CM_ok (c := c) hc40 h40 ⟨rfl, hO, hS, n, c + 1, hn, h14, h31, ?_, hp⟩)
        · show ga M 38 t ≤ nI (stan k50 c).length
          rw [b38, hst2]; exact nI_le g (by omega)
        · refine pq_of ?_ rfl rfl ?_
          · show PQf n (c + 1) (upd f26 c 0) (upd (ga M 27) c (nI t)) (upd f28 c 0) (upd (ga M 29) c (gi M 25)) (upd f30 c (-9)) f31 st (upd k50 c 0) (upd (ga M 49) c (nI t)) (upd f' c 0) (upd (ga M 52) c (gi M 41)) (upd k53 c (-9))
            rw [h41]
            exact pqf_come0 (hpq f' hf') hc40 ht
          · show gi M 41 + 1 = gi M 25 + 1
            rw [h41]
/-- the reference's minute, down to its waits -/
theorem ref_go {M M1 : Mm} {n c v : Nat} {a1 r6 : Int32} {d : PD} {w : Nat → Int32} {Q : Int32 → Mm → Prop} (hre : RE M1 M) (hd : PDok d) (hdn : pn d = n) (hn : n ≤ 3) (hp : PP d M) (h31 : gi M 31 = nI n) (hc : c ≤ 40) (h40 : gi M 40 = nI c) (ho : gi M 42 = 0 ∨ gi M 42 = 1 ∨ gi M 42 = 2) (hso : ∀ x, x < c → ∃ t, t < 3 ∧ ga M 49 x = nI t) (hw : ∀ x, x < c → wsR M x = w x) (c1 : inI a1 0 11) (c2 : inI (nI v) 0 11) (hv : v ≤ 11)
    (hr6 : (r6 = -9 ∧ ∀ s, s < n → ¬ v < sumTo (pT d) (s + 1)) ∨ ∃ t, r6 = nI t ∧ drawn (pT d) n v t ∧ c < 40)
    (q : ∀ f, wspec M c f → XR a1 r6 (oNo (selL (gi M 42) w (stan (ga M 50) c))) Q (sa M1 51 f)) : wX7_minute a1 (nI v) Q M1 := by
  unfold wX7_minute
  have e28 : gi M1 28 = 1 := (hre.1 28 (by decide)).trans hp.2.1
  have e31 : gi M1 31 = nI n := (hre.1 31 (by decide)).trans h31
  have e40 : gi M1 40 = nI c := (hre.1 40 (by decide)).trans h40
  have e42 : gi M1 42 = gi M 42 := hre.1 42 (by decide)
  have e50 : ga M1 50 = ga M 50 := hre.2 50 (by decide)
  have e49 : ga M1 49 = ga M 49 := hre.2 49 (by decide)
  have e51 : ga M1 51 = ga M 51 := hre.2 51 (by decide)
  have e37 : ga M1 37 = ga M 37 := hre.2 37 (by decide)
  have e36 : ga M1 36 = ga M 36 := hre.2 36 (by decide)
  have hT : ∀ s, s < n → ga M1 36 s = nI (pT d s) := fun s hs => by rw [e36]; exact (hp.2.2.2.2.2.2 s (by omega)).2.1
  have hsum : sumTo (pT d) n ≤ 11 := by rw [← hdn]; exact hd.2.2.2.2.2.2.1
  have hw1 : ∀ x, x < c → wsR M1 x = w x := fun x hx => by
    unfold wsR
    rw [e37, e49]
    exact hw x hx
  have sel : selL (gi M1 42) w (stan (ga M1 50) c) = selL (gi M 42) w (stan (ga M 50) c) := by rw [e42, e50]
  have wsp : ∀ f, (∀ x, x < c → f x = if ga M1 50 x = 1 then ga M1 51 x + 1 else ga M1 51 x) → wspec M c f := fun f hf x hx => by rw [hf x hx, e50, e51]
  refine within_t 0 11 rfl rfl c1 (within_t 0 11 rfl rfl c2 (br_f (by rw [e28]; decide) (sortBy_ok hn e31 hT hsum hv (fun t ht => ?_) (fun hnone => ?_))))
  · rcases hr6 with ⟨-, h2⟩ | ⟨t', rfl, h2, h3⟩
    · exact absurd ht.2.1 (h2 t ht.1)
    · have := drawn_eq ht h2
      subst this
      refine br_f (oNo_ne (by have := ht.1; omega)) (br_f ?_ (nextServed_ok hw1 hc e40 (by rw [e42]; exact ho) (by rw [e49]; exact hso) (m66a_ok hc e40 (fun f hf => ?_))))
      · rw [e40]
        intro z
        have := (nI_eq (a := c) (b := 40) (by omega) (by decide)).mp z
        omega
      · rw [sel]
        exact q f (wsp f hf)
  · rcases hr6 with ⟨rfl, -⟩ | ⟨t', -, h2, -⟩
    · refine br_t rfl (nextServed_ok hw1 hc e40 (by rw [e42]; exact ho) (by rw [e49]; exact hso) (m66_ok hc e40 (fun f hf => ?_)))
      rw [sel]
      exact q f (wsp f hf)
    · exact absurd h2.2.1 (hnone t' h2.1)
