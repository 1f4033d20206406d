/-! the long run, in the reference -/
def RGn (M1 M : Mm) : Prop := (∀ k, gi M1 k = gi M k) ∧ (∀ k, k ≠ 41 → ga M1 k = ga M k) ∧ (∀ k, gj M1 k = gj M k) ∧ ∀ k, k ≠ 42 → k ≠ 43 → k ≠ 44 → gb M1 k = gb M k
theorem rg_rf (M : Mm) : RGn M M := ⟨fun _ => rfl, fun _ _ => rfl, fun _ => rfl, fun _ _ _ _ => rfl⟩
theorem rg_tr {A B C : Mm} (h : RGn A B) (g : RGn B C) : RGn A C := ⟨fun k => (h.1 k).trans (g.1 k), fun k p => (h.2.1 k p).trans (g.2.1 k p), fun k => (h.2.2.1 k).trans (g.2.2.1 k), fun k p q r => (h.2.2.2 k p q r).trans (g.2.2.2 k p q r)⟩
theorem rg_sa {M1 M : Mm} (f : Nat → Int32) (h : RGn M1 M) : RGn (sa M1 41 f) M := ⟨h.1, fun k hk => by rw [ga_sa, if_neg hk]; exact h.2.1 k hk, h.2.2.1, h.2.2.2⟩
theorem rg_sb {M1 M : Mm} (j : Nat) (f : Nat → Int64) (h : RGn M1 M) (hj : j = 42 ∨ j = 43 ∨ j = 44) : RGn (sb M1 j f) M := ⟨h.1, h.2.1, h.2.2.1, fun k p q r => by rw [gb_sb, if_neg (by omega)]; exact h.2.2.2 k p q r⟩
theorem layJ16 {M : Mm} {d : PD} {b : Nat → Nat} {kk n : Nat} {Q : Mm → Prop} {J2 : Int32 → Mm → Prop} (hk : lenA kk = 3) (hkk : kk ≠ 41) (hd : pn d ≤ 3) (hn : n < 6) (h31 : gi M 31 = nI (pn d)) (hb : ∀ s, s < pn d → b s ≤ 5 ∧ ga M kk s = nI (b s)) (hT : ∀ s, s < pn d → ga M 36 s = nI (pT d s)) (h0 : ga M 41 n = nI 0) (q : ∀ M', RGn M' M → ga M' 41 n = nI (joinN d b n) → (∀ i, i ≠ n → ga M' 41 i = ga M 41 i) → gb M' = gb M → J2 (nI (n + 1)) M') : lX7_layJoins_16 kk (nI n) Q J2 (nI 0) M := by
  have hcn : (nI n).toNatClampNeg = n := nI_clamp (by omega)
  have hvn : vp_in (nI n) 8 := vp_in_nI (by omega) (by decide)
  refine up_loop (fun j m => lX7_layJoins_16 kk (nI n) Q J2 (nI j) m) (fun j m => RGn m M ∧ ga m 41 n = nI (sumTo (fun s => if n < b s then pT d s else 0) j) ∧ (∀ i, i ≠ n → ga m 41 i = ga M 41 i) ∧ gb m = gb M) (pn d) ?_ ?_ 0 _ (Nat.zero_le _) ⟨rg_rf M, h0, fun _ _ => rfl, rfl⟩
  · rintro m ⟨h1, h2, h3, h4⟩
    refine lX7_layJoins_16_mk _ _ _ _ _ _ (br_t (by rw [h1.1 31, h31]; exact nI_le (Nat.le_refl _) (by omega)) ?_)
    rw [nI_1]
    exact q m h1 h2 h3 h4
  · rintro j m hj ⟨h1, h2, h3, h4⟩ ih
    have hbj := hb j hj
    have hcj : (nI j).toNatClampNeg = j := nI_clamp (by omega)
    have hvj : vp_in (nI j) 3 := vp_in_nI (by omega) (by decide)
    refine lX7_layJoins_16_mk _ _ _ _ _ _ (br_f (by rw [h1.1 31, h31]; exact nI_ge hj (by omega)) ⟨hvn, by rw [hk]; exact hvj, ?_⟩)
    rw [hcj, hcn, h1.2.1 kk hkk, h1.2.1 36 (by decide), hbj.2, hT j hj, h2, nI_leI (by omega) (by omega)]
    refine br_c (fun g => ⟨hvn, nm_e ?_⟩) (fun g => ⟨hvj, hvn, nm_e ?_⟩)
    · rw [nI_1]
      refine ih _ ⟨rg_sa _ h1, ?_, fun i hi => ?_, h4⟩
      · rw [ga_sa, if_pos rfl, pk_us]
        show nI _ + nI 0 = nI (_ + (if n < b j then pT d j else 0))
        rw [if_neg (by omega), nI_add]
      · rw [ga_sa, if_pos rfl, pk_un hi]; exact h3 i hi
    · rw [nI_1]
      refine ih _ ⟨rg_sa _ h1, ?_, fun i hi => ?_, h4⟩
      · rw [ga_sa, if_pos rfl, pk_us]
        show nI _ + nI _ = nI (_ + (if n < b j then pT d j else 0))
        rw [if_pos (by omega), nI_add]
      · rw [ga_sa, if_pos rfl, pk_un hi]; exact h3 i hi
theorem layJoinsM {M : Mm} {d : PD} {b : Nat → Nat} {kk : Nat} {Q : Mm → Prop} (hk : lenA kk = 3) (hkk : kk ≠ 41) (hd : pn d ≤ 3) (h31 : gi M 31 = nI (pn d)) (hb : ∀ s, s < pn d → b s ≤ 5 ∧ ga M kk s = nI (b s)) (hT : ∀ s, s < pn d → ga M 36 s = nI (pT d s)) (q : ∀ M', RGn M' M → (∀ i, i < 6 → ga M' 41 i = nI (joinN d b i)) → Q M') : wX7_layJoins kk Q M := by
  unfold wX7_layJoins
  rw [show (0 : Int32) = nI 0 from rfl]
  refine up_loop (fun j m => lX7_layJoins_2 kk Q (nI j) m) (fun j m => RGn m M ∧ ∀ i, i < j → ga m 41 i = nI (joinN d b i)) 6 ?_ ?_ 0 _ (Nat.zero_le _) ⟨rg_rf M, fun i hi => absurd hi (Nat.not_lt_zero _)⟩
  · rintro m ⟨h1, h2⟩
    exact lX7_layJoins_2_mk _ _ _ _ (br_t (by decide) (q m h1 h2))
  · rintro j m hj ⟨h1, h2⟩ ih
    have hcj : (nI j).toNatClampNeg = j := nI_clamp (by omega)
    refine lX7_layJoins_2_mk _ _ _ _ (br_f (nI_nlt (a := 5) (by omega) (by omega)) ⟨vp_in_nI (by omega) (by decide), nm_e ?_⟩)
    rw [hcj, show (0 : Int32) = nI 0 from rfl]
    refine layJ16 (d := d) (b := b) hk hkk hd hj ?_ (fun s hs => ?_) (fun s hs => ?_) ?_ (fun M' g1 g2 g3 _ => ih M' ⟨rg_tr g1 (rg_sa _ h1), fun i hi => ?_⟩)
    · show gi m 31 = _
      rw [h1.1 31]; exact h31
    · rw [ga_sa, if_neg hkk, h1.2.1 kk hkk]; exact hb s hs
    · rw [ga_sa, if_neg (by decide), h1.2.1 36 (by decide)]; exact hT s hs
    · rw [ga_sa, if_pos rfl, pk_us]
    · by_cases e : i = j
      · subst e; exact g2
      · rw [g3 i e, ga_sa, if_pos rfl, pk_un e]; exact h2 i (by omega)
/-- the weights, each a product -/
theorem layW16 {M : Mm} {u e : Nat → Int} {top n : Nat} {Q : Mm → Prop} {J2 : Int32 → Mm → Prop} (ht : top ≤ 5) (hn : n ≤ top) (hu : ∀ k, k < top → gb M 42 k = jZ (u k)) (he : ∀ k, k < top → gb M 43 (k + 1) = jZ (e (k + 1))) (h0 : gb M 44 n = jZ 1) (q : ∀ M', RGn M' M → gb M' 44 n = jZ (pwI u e n top) → (∀ i, i ≠ n → gb M' 44 i = gb M 44 i) → gb M' 42 = gb M 42 → gb M' 43 = gb M 43 → ga M' = ga M → J2 (nI (n + 1)) M') : lX7_layWeights_16 (nI top) (nI n) Q J2 (nI 0) M := by
  have hcn : (nI n).toNatClampNeg = n := nI_clamp (by omega)
  have hvn : vp_in (nI n) 8 := vp_in_nI (by omega) (by decide)
  refine up_loop (fun j m => lX7_layWeights_16 (nI top) (nI n) Q J2 (nI j) m) (fun j m => RGn m M ∧ gb m 44 n = jZ (pwI u e n j) ∧ (∀ i, i ≠ n → gb m 44 i = gb M 44 i) ∧ gb m 42 = gb M 42 ∧ gb m 43 = gb M 43 ∧ ga m = ga M) top ?_ ?_ 0 _ (Nat.zero_le _) ⟨rg_rf M, h0, fun _ _ => rfl, rfl, rfl, rfl⟩
  · rintro m ⟨h1, h2, h3, h4, h5, h6⟩
    refine lX7_layWeights_16_mk _ _ _ _ _ _ (br_t (nI_le (Nat.le_refl _) (by omega)) ?_)
    rw [nI_1]
    exact q m h1 h2 h3 h4 h5 h6
  · rintro j m hj ⟨h1, h2, h3, h4, h5, h6⟩ ih
    have hcj : (nI j).toNatClampNeg = j := nI_clamp (by omega)
    have hcj1 : (nI (j + 1)).toNatClampNeg = j + 1 := nI_clamp (by omega)
    have hvj : vp_in (nI j) 8 := vp_in_nI (by omega) (by decide)
    have hvj1 : vp_in (nI (j + 1)) 8 := vp_in_nI (by omega) (by decide)
    refine lX7_layWeights_16_mk _ _ _ _ _ _ (br_f (nI_ge hj (by omega)) ⟨hvn, ?_⟩)
    rw [nI_1, hcj, hcn, hcj1, h4, h5, hu j hj, he j hj, h2, nI_leI (by omega) (by omega), jZ_mul, jZ_mul]
    refine br_c (fun g => ⟨hvj1, hvn, nm_e ?_⟩) (fun g => ⟨hvj, hvn, nm_e ?_⟩)
    · refine ih _ ⟨rg_sb 44 _ h1 (by omega), ?_, fun i hi => ?_, h4, h5, h6⟩
      · rw [gb_sb, if_pos rfl, pk_uLs]
        show _ = jZ (pwI u e n j * (if j < n then u j else e (j + 1)))
        rw [if_neg (by omega)]
      · rw [gb_sb, if_pos rfl, pk_uLn hi]; exact h3 i hi
    · refine ih _ ⟨rg_sb 44 _ h1 (by omega), ?_, fun i hi => ?_, h4, h5, h6⟩
      · rw [gb_sb, if_pos rfl, pk_uLs]
        show _ = jZ (pwI u e n j * (if j < n then u j else e (j + 1)))
        rw [if_pos (by omega)]
      · rw [gb_sb, if_pos rfl, pk_uLn hi]; exact h3 i hi
