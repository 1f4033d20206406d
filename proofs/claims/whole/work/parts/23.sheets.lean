theorem ix60 (k i : Nat) : nI k * 60 + nI i = nI (60 * k + i) := by
  rw [show (60 : Int32) = nI 60 from rfl, pk_mul, nI_add, Nat.mul_comm]
theorem ix60' (k i : Nat) : 60 * nI k + nI i = nI (60 * k + i) := by
  rw [show (60 : Int32) = nI 60 from rfl, pk_mul, nI_add]
theorem nI_m1 {n : Nat} (h : n ≤ 1000) : (nI n - 1).toInt = (n : Int) - 1 := by
  rw [show (1 : Int32) = nI 1 from rfl, pk_sub_toInt (by omega) (by decide)]
  rfl
theorem sh_k {a : Int32} (h : inI a 0 3) : ∃ k, k < 4 ∧ a = nI k := by
  obtain ⟨j, h1, h2⟩ := inI_nI h (n := 3) rfl
  exact ⟨j, by omega, h2⟩
theorem lane_v {v : Int32} (h : v = 0 ∨ v = 1 ∨ v = 2) : ¬ v = -1 ∧ ¬ v = -9 ∧ inI v 0 2 := by
  rcases h with rfl | rfl | rfl <;> decide
theorem hasNothing_t {M : Mm} {k : Nat} {Q : Int32 → Mm → Prop} (hk : k < 4) (h : ga M 8 k = -1) (q : Q 1 M) : wX4_hasNothing (nI k) Q M := by
  unfold wX4_hasNothing
  exact at_in (n := 4) rfl (by decide) hk (br_t h q)
theorem hasNothing_n {M : Mm} {k : Nat} {Q : Int32 → Mm → Prop} (hk : k < 4) (h : ¬ ga M 8 k = -1) (q : Q 0 M) : wX4_hasNothing (nI k) Q M := by
  unfold wX4_hasNothing
  exact at_in (n := 4) rfl (by decide) hk (br_f h q)
theorem RS_set {M : Mm} {k : Nat} {f8 f9 f10 f33 f34 f35 : Nat → Int32} (h : RS M) (h8 : ∀ j, j < 4 → j ≠ k → f8 j = ga M 8 j) (h9 : ∀ j, j < 4 → j ≠ k → f9 j = ga M 9 j) (h33 : ∀ j, j < 4 → j ≠ k → f33 j = ga M 33 j) (h34 : ∀ j, j < 4 → j ≠ k → f34 j = ga M 34 j)
    (h10 : ∀ j i, j < 4 → j ≠ k → i < 60 → f10 (60 * j + i) = ga M 10 (60 * j + i)) (h35 : ∀ j i, j < 4 → j ≠ k → i < 60 → f35 (60 * j + i) = ga M 35 (60 * j + i))
    {M2 : Mm} (e8 : ga M2 8 = f8) (e9 : ga M2 9 = f9) (e10 : ga M2 10 = f10) (e33 : ga M2 33 = f33) (e34 : ga M2 34 = f34) (e35 : ga M2 35 = f35) (hk : k < 4 → RS1 M2 k) : RS M2 := by
  intro j hj
  by_cases q : j = k
  · subst q; exact hk hj
  · have h1 := h j hj
    unfold RS1 at h1 ⊢
    rw [e8, e9, e10, e33, e34, e35, h8 j hj q, h9 j hj q, h33 j hj q, h34 j hj q]
    rcases h1 with h1 | ⟨a1, a2, n, hn, b1, b2, b3⟩
    · exact Or.inl h1
    · exact Or.inr ⟨a1, a2, n, hn, b1, b2, fun i hi => by rw [h10 j i hj q (by omega), h35 j i hj q (by omega)]; exact b3 i hi⟩
theorem renew_ok {M : Mm} {k n : Nat} {lane : Int32} {Q : Mm → Prop} (hk : k < 4) (hn : n ≤ 60) (q : ∀ f, (∀ i, i < n → f (60 * k + i) = 0) → (∀ j, (∀ i, i < n → j ≠ 60 * k + i) → f j = ga M 10 j) → Q (sa (sa (sa M 8 (upd (ga M 8) k lane)) 9 (upd (ga M 9) k (nI n))) 10 f)) : wX4_renew (nI k) lane (nI n) Q M := by
  unfold wX4_renew
  refine set_in (n := 4) rfl (by decide) hk (set_in (n := 4) rfl (by decide) hk ?_)
  rw [show (0 : Int32) = nI 0 from rfl]
  refine up_loop (fun j m => lX4_renew_21 (nI k) (nI n) Q (nI j) m) (fun j m => ∃ f, m = sa (sa (sa M 8 (upd (ga M 8) k lane)) 9 (upd (ga M 9) k (nI n))) 10 f ∧ (∀ i, i < j → f (60 * k + i) = 0) ∧ (∀ x, (∀ i, i < j → x ≠ 60 * k + i) → f x = ga M 10 x)) n ?_ ?_ 0 _ (Nat.zero_le _) ?_
  · rintro m ⟨f, rfl, h1, h2⟩
    refine lX4_renew_21_mk _ _ _ _ _ ?_
    exact br_t (nI_le (Nat.le_refl _) (by omega)) (q f h1 h2)
  · rintro j m hj ⟨f, rfl, h1, h2⟩ ih
    refine lX4_renew_21_mk _ _ _ _ _ ?_
    refine br_f (nI_ge hj (by omega)) (br_f (nI_ge (b := 60) (by omega) (by decide)) ?_)
    unfold wX4_indexOf
    rw [ix60]
    refine set_in (n := 240) rfl (by decide) (by omega) ?_
    rw [sa_sa, ga_sa_eq, nI_1]
    refine ih _ ⟨_, rfl, fun i hi => ?_, fun x hx => ?_⟩
    · by_cases e : i = j
      · subst e; exact pk_us
      · rw [pk_un (by omega)]; exact h1 i (by omega)
    · rw [pk_un (hx j (by omega))]; exact h2 x (fun i hi => hx i (by omega))
  · exact ⟨ga M 10, (sa_self _ 10).symm, fun i hi => absurd hi (Nat.not_lt_zero _), fun x _ => rfl⟩
theorem sheet_loop {M : Mm} {k : Nat} {Q : Int32 → Mm → Prop} (hk : k < 4) (q : ∀ f, (∀ i, i < 60 → f (60 * k + i) = 0) → (∀ j, (∀ i, i < 60 → j ≠ 60 * k + i) → f j = ga M 35 j) → Q 1 (sa M 35 f)) : lX7_sheet_57 (nI k) Q 0 M := by
  rw [show (0 : Int32) = nI 0 from rfl]
  refine up_loop (fun j m => lX7_sheet_57 (nI k) Q (nI j) m) (fun j m => ∃ f, m = sa M 35 f ∧ (∀ i, i < j → f (60 * k + i) = 0) ∧ (∀ x, (∀ i, i < j → x ≠ 60 * k + i) → f x = ga M 35 x)) 60 ?_ ?_ 0 _ (Nat.zero_le _) ?_
  · rintro m ⟨f, rfl, h1, h2⟩
    refine lX7_sheet_57_mk _ _ _ _ ?_
    exact br_t (nI_le (a := 60) (Nat.le_refl _) (by decide)) (q f h1 h2)
  · rintro j m hj ⟨f, rfl, h1, h2⟩ ih
    refine lX7_sheet_57_mk _ _ _ _ ?_
    refine br_f (nI_ge (b := 60) (by omega) (by decide)) ?_
    rw [ix60']
    refine ⟨vp_in_nI (by omega) (by decide), nm_e ?_⟩
    rw [nI_clamp (by omega), sa_sa, ga_sa_eq, nI_1]
    refine ih _ ⟨_, rfl, fun i hi => ?_, fun x hx => ?_⟩
    · by_cases e : i = j
      · subst e; exact pk_us
      · rw [pk_un (by omega)]; exact h1 i (by omega)
    · rw [pk_un (hx j (by omega))]; exact h2 x (fun i hi => hx i (by omega))
  · exact ⟨ga M 35, (sa_self _ 35).symm, fun i hi => absurd hi (Nat.not_lt_zero _), fun x _ => rfl⟩
/-- the faults of both -/
theorem Rel_f {M : Mm} (h : Rel M) (v : Int32) : Rel (si (si M 2 v) 26 v) := ⟨⟨h.1.1, h.1.2.1, rfl, h.1.2.2.2⟩, h.2⟩
theorem ok_sheet {M : Mm} (a l n : Int32) (h : Rel M) : okI (wX6_sheet a l n) (wX7_sheet a l n) M := by
  unfold okI wX6_sheet wX7_sheet
  refine nm_e (isWithin_br 0 3 rfl rfl (fun c => nm_e (within_n 0 3 rfl rfl c ⟨rfl, Rel_f h 0⟩)) (fun c => ?_))
  refine isWithin_br 0 2 rfl rfl (fun e => nm_e (within_t 0 3 rfl rfl c (within_n 0 2 rfl rfl e ⟨rfl, Rel_f h 0⟩))) (fun e => ?_)
  refine br_c (fun g => ?_) (fun g => nm_e (within_t 0 3 rfl rfl c (within_t 0 2 rfl rfl e (br_f g ⟨rfl, Rel_f h 0⟩))))
  refine br_c (fun z => ?_) (fun z => ?_)
  · obtain ⟨k, hk, rfl⟩ := sh_k c
    obtain ⟨m, hm, rfl⟩ := inI_nI (v := n) (hi := 60) (n := 60) ⟨by rw [i_le] at z; exact z, by rw [i_le] at g; exact g⟩ rfl
    refine renew_ok hk hm (fun f hf1 hf2 => ?_)
    refine nm_e (within_t 0 3 rfl rfl c (within_t 0 2 rfl rfl e (br_t g (br_t z ⟨vp_in_nI hk (by decide), nm_e ⟨vp_in_nI hk (by decide), nm_e (sheet_loop hk (fun f' hf1' hf2' => ?_))⟩⟩))))
    rw [nI_clamp (by omega)] at *
    refine ⟨rfl, ⟨h.1.1, h.1.2.1, rfl, h.1.2.2.2⟩, ?_, h.2.2⟩
    refine RS_set (k := k) h.2.1 (fun j _ q => pk_un q) (fun j _ q => pk_un q) (fun j _ q => pk_un q) (fun j _ q => pk_un q) (fun j i hj q hi => hf2 _ (fun x hx => by omega)) (fun j i hj q hi => hf2' _ (fun x hx => by omega)) rfl rfl rfl rfl rfl rfl (fun _ => ?_)
    refine Or.inr ⟨?_, ?_, m, hm, pk_us, pk_us, fun i hi => ?_⟩
    · show upd (ga M 8) k l k = 0 ∨ upd (ga M 8) k l k = 1 ∨ upd (ga M 8) k l k = 2
      rw [pk_us]; exact cases3 e
    · show upd (ga M 33) k l k = upd (ga M 8) k l k
      rw [pk_us, pk_us]
    · show f' (60 * k + i) = f (60 * k + i)
      rw [hf1 i hi, hf1' i (by omega)]
  · unfold wX6_faulted
    refine nm_e (nm_e (within_t 0 3 rfl rfl c (within_t 0 2 rfl rfl e (br_t g (br_f z ?_)))))
    unfold wX7_fails
    exact nm_e ⟨rfl, ⟨h.1.1, h.1.2.1, rfl, h.1.2.2.2⟩, h.2⟩
theorem ok_lose {M : Mm} (a : Int32) (h : Rel M) : okI (wX6_lose a) (wX7_lose a) M := by
  unfold okI wX6_lose wX7_lose
  refine isWithin_br 0 3 rfl rfl (fun c => within_n 0 3 rfl rfl c ⟨rfl, h⟩) (fun c => ?_)
  obtain ⟨k, hk, rfl⟩ := sh_k c
  have hv : vp_in (nI k) 4 := vp_in_nI hk (by decide)
  rcases h.2.1 k hk with ⟨h1, h2⟩ | ⟨h1, h2, h3⟩
  · refine hasNothing_t hk h1 (br_f one_ne (within_t 0 3 rfl rfl c ⟨hv, br_t ?_ ⟨hv, nm_e ⟨rfl, h.1, ?_, h.2.2⟩⟩⟩))
    · rw [nI_clamp (by omega)]; exact h2
    · rw [nI_clamp (by omega)]
      refine RS_set (k := k) h.2.1 (fun j _ q => rfl) (fun j _ q => rfl) (fun j _ q => pk_un q) (fun j _ q => rfl) (fun j i hj q hi => rfl) (fun j i hj q hi => rfl) rfl rfl rfl rfl rfl rfl (fun _ => Or.inl ⟨h1, pk_us⟩)
  · obtain ⟨v1, v2, -⟩ := lane_v h1
    refine hasNothing_n hk v1 (br_t rfl ?_)
    unfold wX4_forget
    refine set_in (n := 4) rfl (by decide) hk (set_in (n := 4) rfl (by decide) hk ?_)
    refine within_t 0 3 rfl rfl c ⟨hv, br_f ?_ ⟨hv, nm_e ⟨rfl, h.1, ?_, h.2.2⟩⟩⟩
    · rw [nI_clamp (by omega)]
      show ¬ ga M 33 k = -9
      rw [h2]; exact v2
    · rw [nI_clamp (by omega)]
      refine RS_set (k := k) h.2.1 (fun j _ q => pk_un q) (fun j _ q => pk_un q) (fun j _ q => pk_un q) (fun j _ q => rfl) (fun j i hj q hi => rfl) (fun j i hj q hi => rfl) rfl rfl rfl rfl rfl rfl (fun _ => Or.inl ⟨pk_us, pk_us⟩)
theorem sizeOf_ok {M : Mm} {k : Nat} {Q : Int32 → Mm → Prop} (hk : k < 4) (q : Q (ga M 9 k) M) : wX4_sizeOf (nI k) Q M := by
  unfold wX4_sizeOf
  exact at_in (n := 4) rfl (by decide) hk q
theorem write_ok {M : Mm} {k i : Nat} {v x : Int32} {Q : Mm → Prop} (hk : k < 4) (hi : i < 60) (h : (ga M 8 k = 0 ∧ x = v.toInt8.toInt32) ∨ (ga M 8 k = 1 ∧ x = v.toInt16.toInt32) ∨ (ga M 8 k = 2 ∧ x = v)) (q : Q (sa M 10 (upd (ga M 10) (60 * k + i) x))) : wX4_write (nI k) (nI i) v Q M := by
  unfold wX4_write wX4_indexOf
  rw [ix60]
  refine at_in (n := 4) rfl (by decide) hk ?_
  have s : ∀ y, y = x → wX6_set 10 (nI (60 * k + i)) y Q M := fun y e => by subst e; exact set_in (n := 240) rfl (by decide) (by omega) q
  rcases h with ⟨h, e⟩ | ⟨h, e⟩ | ⟨h, e⟩
  · refine br_t h (at_in (n := 4) rfl (by decide) hk (br_f (by rw [h]; decide) (s _ e.symm)))
  · refine br_f (by rw [h]; decide) (at_in (n := 4) rfl (by decide) hk (br_t h (s _ e.symm)))
  · refine br_f (by rw [h]; decide) (at_in (n := 4) rfl (by decide) hk (br_f (by rw [h]; decide) (s _ e.symm)))
theorem ok_put {M : Mm} (a i v : Int32) (h : Rel M) : okI (wX6_put a i v) (wX7_put a i v) M := by
  unfold okI wX6_put wX7_put
  refine nm_e (isWithin_br 0 3 rfl rfl (fun c => nm_e (within_n 0 3 rfl rfl c ⟨rfl, Rel_f h 0⟩)) (fun c => ?_))
  obtain ⟨k, hk, rfl⟩ := sh_k c
  have hv : vp_in (nI k) 4 := vp_in_nI hk (by decide)
  have hc : (nI k).toNatClampNeg = k := nI_clamp (by omega)
  rcases h.2.1 k hk with ⟨h1, h2⟩ | ⟨h1, h2, n, hn, h3, h4, h5⟩
  · refine hasNothing_t hk h1 (br_f one_ne ?_)
    unfold wX6_faulted
    refine nm_e (nm_e (within_t 0 3 rfl rfl c ⟨hv, br_t (by rw [hc]; exact h2) ?_⟩))
    unfold wX7_fails
    exact nm_e ⟨rfl, ⟨h.1.1, h.1.2.1, rfl, h.1.2.2.2⟩, h.2⟩
  · obtain ⟨v1, v2, -⟩ := lane_v h1
    have e9 : (ga M 9 k - 1).toInt = (n : Int) - 1 := by rw [h3]; exact nI_m1 (by omega)
    have e34 : (ga M 34 k - 1).toInt = (n : Int) - 1 := by rw [h4]; exact nI_m1 (by omega)
    have v3 : ¬ ga M 33 k = -9 := by rw [h2]; exact v2
    refine hasNothing_n hk v1 (br_t rfl (sizeOf_ok hk ?_))
    refine isWithin_br 0 ((n : Int) - 1) rfl e9 (fun e => ?_) (fun e => ?_)
    · unfold wX6_faulted
      refine nm_e (nm_e (within_t 0 3 rfl rfl c ⟨hv, br_f (by rw [hc]; exact v3) ⟨hv, ?_⟩⟩))
      rw [hc]
      refine within_n 0 ((n : Int) - 1) rfl e34 e ?_
      unfold wX7_fails
      exact nm_e ⟨rfl, ⟨h.1.1, h.1.2.1, rfl, h.1.2.2.2⟩, h.2⟩
    · have hn0 : 0 < n := by have := e.1; have := e.2; omega
      obtain ⟨j, hj, rfl⟩ := inI_nI e (n := n - 1) (by omega)
      have hlt : 60 * k + j < 240 := by omega
      have fin : ∀ x, Rel (sa (si (sa (si M 2 0) 10 (upd (ga M 10) (60 * k + j) x)) 26 0) 35 (upd (ga M 35) (60 * k + j) x)) := fun x => by
        refine ⟨⟨h.1.1, h.1.2.1, rfl, h.1.2.2.2⟩, ?_, h.2.2⟩
        refine RS_set (k := k) h.2.1 (fun _ _ _ => rfl) (fun _ _ _ => rfl) (fun _ _ _ => rfl) (fun _ _ _ => rfl) (fun y i hy q hi => pk_un (by omega)) (fun y i hy q hi => pk_un (by omega)) rfl rfl rfl rfl rfl rfl (fun _ => Or.inr ⟨h1, h2, n, hn, h3, h4, fun i hi => ?_⟩)
        show upd (ga M 35) (60 * k + j) x (60 * k + i) = upd (ga M 10) (60 * k + j) x (60 * k + i)
        by_cases q : i = j
        · subst q; rw [pk_us, pk_us]
        · rw [pk_un (by omega), pk_un (by omega)]; exact h5 i hi
      have hw : vp_in (nI (60 * k + j)) 240 := vp_in_nI hlt (by decide)
      have hcw : (nI (60 * k + j)).toNatClampNeg = 60 * k + j := nI_clamp (by omega)
      have g0 : ∀ z : Int32, ¬ ga M 8 k = z → ¬ ga M 33 k = z := fun z q => by rw [h2]; exact q
      rcases h1 with q | q | q
      · refine write_ok (x := v.toInt8.toInt32) hk (by omega) (Or.inl ⟨q, rfl⟩) (nm_e (within_t 0 3 rfl rfl c ⟨hv, br_f (by rw [hc]; exact v3) ⟨hv, ?_⟩⟩))
        rw [hc]
        refine within_t 0 ((n : Int) - 1) rfl e34 e ⟨hv, br_t (h2.trans q) ?_⟩
        rw [ix60']
        refine ⟨hw, nm_e ?_⟩
        rw [hcw]
        exact ⟨rfl, fin _⟩
      · refine write_ok (x := v.toInt16.toInt32) hk (by omega) (Or.inr (Or.inl ⟨q, rfl⟩)) (nm_e (within_t 0 3 rfl rfl c ⟨hv, br_f (by rw [hc]; exact v3) ⟨hv, ?_⟩⟩))
        rw [hc]
        refine within_t 0 ((n : Int) - 1) rfl e34 e ⟨hv, br_f (g0 0 (by rw [q]; decide)) ⟨hv, br_t (h2.trans q) ?_⟩⟩
        rw [ix60']
        refine ⟨hw, nm_e ?_⟩
        rw [hcw]
        exact ⟨rfl, fin _⟩
      · refine write_ok (x := v) hk (by omega) (Or.inr (Or.inr ⟨q, rfl⟩)) (nm_e (within_t 0 3 rfl rfl c ⟨hv, br_f (by rw [hc]; exact v3) ⟨hv, ?_⟩⟩))
        rw [hc]
        refine within_t 0 ((n : Int) - 1) rfl e34 e ⟨hv, br_f (g0 0 (by rw [q]; decide)) ⟨hv, br_f (g0 1 (by rw [q]; decide)) ?_⟩⟩
        rw [ix60']
        refine ⟨hw, nm_e ?_⟩
        rw [hcw]
        exact ⟨rfl, fin _⟩
theorem ok_cell {M : Mm} (a i l : Int32) (h : Rel M) : okJ (wX6_cell a i l) (wX7_cell a i l) M := by
  unfold okJ wX6_cell wX7_cell
  refine nm_e (isWithin_br 0 3 rfl rfl (fun c => nm_e (within_n 0 3 rfl rfl c ⟨rfl, Rel_f h 0⟩)) (fun c => ?_))
  refine isWithin_br 0 2 rfl rfl (fun e => nm_e (within_t 0 3 rfl rfl c (within_n 0 2 rfl rfl e ⟨rfl, Rel_f h 0⟩))) (fun e => ?_)
  obtain ⟨k, hk, rfl⟩ := sh_k c
  have hv : vp_in (nI k) 4 := vp_in_nI hk (by decide)
  have hc : (nI k).toNatClampNeg = k := nI_clamp (by omega)
  have fl : ∀ x, Rel (si (si (si (si M 2 0) 2 x) 26 0) 26 x) := fun x => ⟨⟨h.1.1, h.1.2.1, rfl, h.1.2.2.2⟩, h.2⟩
  unfold wX4_isOfAnotherLane
  rcases h.2.1 k hk with ⟨h1, h2⟩ | ⟨h1, h2, n, hn, h3, h4, h5⟩
  · refine hasNothing_t hk h1 (br_f one_ne (br_t rfl (hasNothing_t hk h1 (br_f one_ne ?_))))
    unfold wX6_lost
    refine nm_e (nm_e (within_t 0 3 rfl rfl c (within_t 0 2 rfl rfl e ⟨hv, br_t (by rw [hc]; exact h2) ⟨hv, br_t (by rw [hc]; exact h2) ?_⟩⟩)))
    unfold wX7_lost
    exact nm_e ⟨rfl, fl 1⟩
  · obtain ⟨v1, v2, -⟩ := lane_v h1
    have e9 : (ga M 9 k - 1).toInt = (n : Int) - 1 := by rw [h3]; exact nI_m1 (by omega)
    have e34 : (ga M 34 k - 1).toInt = (n : Int) - 1 := by rw [h4]; exact nI_m1 (by omega)
    have v3 : ¬ ga M 33 k = -9 := by rw [h2]; exact v2
    refine hasNothing_n hk v1 (br_t rfl (at_in (n := 4) rfl (by decide) hk (br_c (fun g => ?_) (fun g => ?_))))
    · refine br_t rfl (hasNothing_n hk v1 (br_t rfl (sizeOf_ok hk ?_)))
      refine isWithin_br 0 ((n : Int) - 1) rfl e9 (fun z => ?_) (fun z => ?_)
      · unfold wX6_lost
        refine nm_e (nm_e (within_t 0 3 rfl rfl c (within_t 0 2 rfl rfl e ⟨hv, br_f (by rw [hc]; exact v3) ⟨hv, br_t (by rw [hc]; exact h2.trans g) ⟨hv, br_f (by rw [hc]; exact v3) ⟨hv, ?_⟩⟩⟩⟩)))
        rw [hc]
        refine within_n 0 ((n : Int) - 1) rfl e34 z ?_
        unfold wX7_lost
        exact nm_e ⟨rfl, fl 3⟩
      · have hn0 : 0 < n := by have := z.1; have := z.2; omega
        obtain ⟨j, hj, rfl⟩ := inI_nI z (n := n - 1) (by omega)
        unfold wX4_read wX4_indexOf
        rw [ix60]
        refine at_in (n := 240) rfl (by decide) (by omega) (nm_e (within_t 0 3 rfl rfl c (within_t 0 2 rfl rfl e ⟨hv, br_f (by rw [hc]; exact v3) ⟨hv, br_t (by rw [hc]; exact h2.trans g) ⟨hv, br_f (by rw [hc]; exact v3) ⟨hv, ?_⟩⟩⟩⟩)))
        rw [hc]
        refine within_t 0 ((n : Int) - 1) rfl e34 z ?_
        rw [ix60']
        refine ⟨vp_in_nI (by omega) (by decide), ?_, Rel_f h 0⟩
        rw [nI_clamp (by omega)]
        show (ga M 10 (60 * k + j)).toInt64 = (ga M 35 (60 * k + j)).toInt64
        rw [h5 j (by omega)]
    · refine br_f one_ne ?_
      unfold wX6_lost
      refine nm_e (nm_e (within_t 0 3 rfl rfl c (within_t 0 2 rfl rfl e ⟨hv, br_f (by rw [hc]; exact v3) ⟨hv, br_f (by rw [hc]; exact fun q => g (h2.symm.trans q)) ?_⟩⟩)))
      unfold wX7_lost
      exact nm_e ⟨rfl, fl 2⟩
