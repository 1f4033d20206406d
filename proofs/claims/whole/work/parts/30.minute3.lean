theorem serve_ok {M : Mm} {c i x : Nat} {Q : Int32 → Mm → Prop} (hc : c ≤ 40) (hl : PL c M) (hx : (stan (ga M 26) c)[i]? = some x) (q : ∀ f, (∀ j y, ((stan (ga M 26) c).eraseIdx i)[j]? = some y → f j = nI y) → Q (nI x) (sa (sa (si (sa M 31 f) 24 (nI ((stan (ga M 26) c).length - 1))) 26 (upd (ga M 26) x 2)) 30 (upd (ga M 30) x (gi M 25)))) : wX3_serve (nI i) Q M := by
  unfold wX3_serve
  have hi := (List.getElem?_eq_some_iff.mp hx).1
  have hxc := (stan_mem.mp (List.mem_of_getElem? hx)).1
  exact rowAt hl hx (takeOut_ok hl hi (fun f hf => set_in (n := 40) rfl (by decide) (by omega) (set_in (n := 40) rfl (by decide) (by omega) (q f hf))))
theorem comes_0 {M : Mm} {c n b : Nat} {s : Int32} {Q : Int32 → Mm → Prop} (hc : c < 40) (h23 : gi M 23 = nI c) (h24 : gi M 24 = nI n) (hn : n ≤ 5) (hb : b ≤ n) (q : Q 0 (si (sa (sa (sa (sa (sa M 26 (upd (ga M 26) c 0)) 27 (upd (ga M 27) c s)) 28 (upd (ga M 28) c 0)) 29 (upd (ga M 29) c (gi M 25))) 30 (upd (ga M 30) c (-9))) 23 (nI (c + 1)))) : wX3_comes s (nI b) Q M := by
  unfold wX3_comes
  rw [h24, h23]
  refine br_t (nI_le hb (by omega)) (set_in (n := 40) rfl (by decide) hc ?_)
  rw [show gi (sa M 26 (upd (ga M 26) c 0)) 23 = nI c from h23]
  refine set_in (n := 40) rfl (by decide) hc ?_
  rw [show gi (sa (sa M 26 _) 27 _) 23 = nI c from h23]
  refine set_in (n := 40) rfl (by decide) hc ?_
  rw [show gi (sa (sa (sa M 26 _) 27 _) 28 _) 23 = nI c from h23]
  refine set_in (n := 40) rfl (by decide) hc ?_
  rw [show gi (sa (sa (sa (sa M 26 _) 27 _) 28 _) 29 _) 23 = nI c from h23]
  refine set_in (n := 40) rfl (by decide) hc (nm_e ?_)
  rw [show gi (sa (sa (sa (sa (sa M 26 _) 27 _) 28 _) 29 _) 30 _) 23 = nI c from h23, nI_1]
  exact q
theorem comes_1 {M : Mm} {c n b : Nat} {s : Int32} {Q : Int32 → Mm → Prop} (hc : c < 40) (h23 : gi M 23 = nI c) (h24 : gi M 24 = nI n) (hb5 : b ≤ 5) (hb : n < b) (q : Q 1 (si (si (sa (sa (sa (sa (sa (sa M 26 (upd (ga M 26) c 1)) 27 (upd (ga M 27) c s)) 28 (upd (ga M 28) c 0)) 29 (upd (ga M 29) c (gi M 25))) 30 (upd (ga M 30) c (-9))) 31 (upd (ga M 31) n (nI c))) 24 (nI (n + 1))) 23 (nI (c + 1)))) : wX3_comes s (nI b) Q M := by
  unfold wX3_comes
  rw [h24, h23]
  refine br_f (nI_ge hb (by omega)) (br_f (nI_ge (b := 5) (by omega) (by decide)) (set_in (n := 40) rfl (by decide) hc ?_))
  rw [show gi (sa M 26 (upd (ga M 26) c 1)) 23 = nI c from h23]
  refine set_in (n := 40) rfl (by decide) hc ?_
  rw [show gi (sa (sa M 26 _) 27 _) 23 = nI c from h23]
  refine set_in (n := 40) rfl (by decide) hc ?_
  rw [show gi (sa (sa (sa M 26 _) 27 _) 28 _) 23 = nI c from h23]
  refine set_in (n := 40) rfl (by decide) hc ?_
  rw [show gi (sa (sa (sa (sa M 26 _) 27 _) 28 _) 29 _) 23 = nI c from h23]
  refine set_in (n := 40) rfl (by decide) hc ?_
  rw [show gi (sa (sa (sa (sa (sa M 26 _) 27 _) 28 _) 29 _) 30 _) 23 = nI c from h23, show gi (sa (sa (sa (sa (sa M 26 _) 27 _) 28 _) 29 _) 30 _) 24 = nI n from h24]
  refine set_in (n := 5) rfl (by decide) (by omega) (nm_e (nm_e ?_))
  rw [show gi (si (sa (sa (sa (sa (sa (sa M 26 _) 27 _) 28 _) 29 _) 30 _) 31 _) 24 _) 23 = nI c from h23, show gi (sa (sa (sa (sa (sa (sa M 26 _) 27 _) 28 _) 29 _) 30 _) 31 _) 24 = nI n from h24, nI_1, nI_1]
  exact q
/-- how a minute goes on behind the one who is served -/
def TC (r6 ans : Int32) (Q : Int32 → Mm → Prop) (M : Mm) : Prop := ((r6 = -9 → (∀ M' : Mm, M' = (si M 25 ((gi M 25) + 1)) → (Q ans M'))) ∧ (¬ r6 = -9 → (wX6_at 15 r6 (fun r12 M12 => (wX3_comes r6 r12 (fun r13 M13 => ((r13 = 0 → (∀ M' : Mm, M' = (si M13 25 ((gi M13 25) + 1)) → (Q (ans + 1) M'))) ∧ (¬ r13 = 0 → (∀ M' : Mm, M' = (si M13 25 ((gi M13 25) + 1)) → (Q (ans + 2) M'))))) M12)) M)))
def CM (r6 ans v d : Int32) (Q : Int32 → Mm → Prop) (M13 : Mm) : Prop := (vp_in (gi M13 40) 40 ∧ (∀ M16 : Mm, M16 = (sa M13 49 (upd (ga M13 49) (gi M13 40).toNatClampNeg r6)) → (vp_in (gi M16 40) 40 ∧ (∀ M19 : Mm, M19 = (sa M16 50 (upd (ga M16 50) (gi M16 40).toNatClampNeg v)) → (vp_in (gi M19 40) 40 ∧ (∀ M21 : Mm, M21 = (sa M19 51 (upd (ga M19 51) (gi M19 40).toNatClampNeg 0)) → (vp_in (gi M21 40) 40 ∧ (∀ M23 : Mm, M23 = (sa M21 52 (upd (ga M21 52) (gi M21 40).toNatClampNeg (gi M21 41))) → (vp_in (gi M23 40) 40 ∧ (∀ M25 : Mm, M25 = (sa M23 53 (upd (ga M23 53) (gi M23 40).toNatClampNeg (-9))) → (∀ M27 : Mm, M27 = (si M25 40 ((gi M25 40) + 1)) → (∀ M29 : Mm, M29 = (si M27 41 ((gi M27 41) + 1)) → (Q (ans + d) M29)))))))))))))
def TR (r6 ans : Int32) (Q : Int32 → Mm → Prop) (m : Mm) : Prop := ((r6 = -9 → (∀ M' : Mm, M' = (si m 41 ((gi m 41) + 1)) → (Q ans M'))) ∧ (¬ r6 = -9 → (wX7_standing (fun r13 M13 => (vp_in r6 3 ∧ (((ga M13 38 r6.toNatClampNeg) ≤ r13 → CM r6 ans 0 1 Q M13) ∧ (¬ (ga M13 38 r6.toNatClampNeg) ≤ r13 → CM r6 ans 1 2 Q M13)))) m)))
def XR (a1 r6 r8 : Int32) (Q : Int32 → Mm → Prop) (m : Mm) : Prop := ((r8 = -9 → TR r6 0 Q m) ∧ (¬ r8 = -9 → (((gi m 29) ≤ a1 → TR r6 0 Q m) ∧ (¬ (gi m 29) ≤ a1 → (vp_in r8 40 ∧ (∀ M78 : Mm, M78 = (sa m 50 (upd (ga m 50) r8.toNatClampNeg 2)) → (vp_in r8 40 ∧ (∀ M80 : Mm, M80 = (sa M78 53 (upd (ga M78 53) r8.toNatClampNeg (gi M78 41))) → TR r6 (100 * (r8 + 1)) Q M80))))))))
def XC (a1 r6 : Int32) (Q : Int32 → Mm → Prop) (M : Mm) : Prop := (((gi M 24) ≤ 0 → TC r6 0 Q M) ∧ (¬ (gi M 24) ≤ 0 → (((gi M 12) ≤ a1 → TC r6 0 Q M) ∧ (¬ (gi M 12) ≤ a1 → (wX3_nextBy (gi M 0) (fun r25 M25 => (wX3_serve r25 (fun r26 M26 => TC r6 (100 * (r26 + 1)) Q M26) M25)) M)))))
theorem CM_ok {M : Mm} {c : Nat} {r6 ans v d : Int32} {Q : Int32 → Mm → Prop} (hc : c < 40) (h40 : gi M 40 = nI c) (q : Q (ans + d) (si (si (sa (sa (sa (sa (sa M 49 (upd (ga M 49) c r6)) 50 (upd (ga M 50) c v)) 51 (upd (ga M 51) c 0)) 52 (upd (ga M 52) c (gi M 41))) 53 (upd (ga M 53) c (-9))) 40 (nI (c + 1))) 41 (gi M 41 + 1))) : CM r6 ans v d Q M := by
  unfold CM
  have hv : vp_in (nI c) 40 := vp_in_nI hc (by decide)
  have hcl : (nI c).toNatClampNeg = c := nI_clamp (by omega)
  rw [h40, hcl]
  refine ⟨hv, nm_e ?_⟩
  rw [show gi (sa M 49 (upd (ga M 49) c r6)) 40 = nI c from h40, hcl]
  refine ⟨hv, nm_e ?_⟩
  rw [show gi (sa (sa M 49 _) 50 _) 40 = nI c from h40, hcl]
  refine ⟨hv, nm_e ?_⟩
  rw [show gi (sa (sa (sa M 49 _) 50 _) 51 _) 40 = nI c from h40, hcl]
  refine ⟨hv, nm_e ?_⟩
  rw [show gi (sa (sa (sa (sa M 49 _) 50 _) 51 _) 52 _) 40 = nI c from h40, hcl]
  refine ⟨hv, nm_e ?_⟩
  rw [show gi (sa (sa (sa (sa (sa M 49 _) 50 _) 51 _) 52 _) 53 _) 40 = nI c from h40, nI_1]
  exact nm_e (nm_e q)
/-- the reference's waits, and then the rest of its minute -/
theorem m66_ok {M : Mm} {c : Nat} {a1 r6 r8 : Int32} {Q : Int32 → Mm → Prop} (hc : c ≤ 40) (h40 : gi M 40 = nI c) (q : ∀ f, (∀ x, x < c → f x = if ga M 50 x = 1 then ga M 51 x + 1 else ga M 51 x) → XR a1 r6 r8 Q (sa M 51 f)) : lX7_minute_66 a1 r6 r8 Q 0 M := by
  rw [show (0 : Int32) = nI 0 from rfl]
  refine up_loop (fun j m => lX7_minute_66 a1 r6 r8 Q (nI j) m) (fun j m => ∃ f, m = sa M 51 f ∧ (∀ x, x < j → f x = if ga M 50 x = 1 then ga M 51 x + 1 else ga M 51 x) ∧ ∀ x, j ≤ x → f x = ga M 51 x) c ?_ ?_ 0 M (Nat.zero_le _) ⟨ga M 51, (sa_self _ 51).symm, fun x hx => absurd hx (Nat.not_lt_zero _), fun x _ => rfl⟩
  · rintro m ⟨f, rfl, h1, h2⟩
    refine lX7_minute_66_mk _ _ _ _ _ _ (br_t ?_ (q f h1))
    show gi M 40 ≤ _
    rw [h40]; exact nI_le (Nat.le_refl _) (by omega)
  · rintro j m hj ⟨f, rfl, h1, h2⟩ ih
    refine lX7_minute_66_mk _ _ _ _ _ _ (br_f ?_ ?_)
    · show ¬ gi M 40 ≤ _
      rw [h40]; exact nI_ge hj (by omega)
    · have hv : vp_in (nI j) 40 := vp_in_nI (by omega) (by decide)
      rw [nI_clamp (by omega), sa_sa, sa_sa, ga_sa_eq, nI_1]
      refine ⟨hv, hv, br_c (fun e => ⟨hv, nm_e (ih _ ⟨_, rfl, fun x hx => ?_, fun x hx => ?_⟩)⟩) (fun e => ⟨hv, nm_e (ih _ ⟨_, rfl, fun x hx => ?_, fun x hx => ?_⟩)⟩)⟩
      · by_cases z : x = j
        · subst z
          have e' : ga M 50 x = 1 := e
          rw [pk_us, h2 x (Nat.le_refl _), if_pos e']
        · rw [pk_un z]; exact h1 x (by omega)
      · rw [pk_un (by omega)]; exact h2 x (by omega)
      · by_cases z : x = j
        · subst z
          have e' : ¬ ga M 50 x = 1 := e
          rw [pk_us, h2 x (Nat.le_refl _), if_neg e', Int32.add_zero]
        · rw [pk_un z]; exact h1 x (by omega)
      · rw [pk_un (by omega)]; exact h2 x (by omega)
theorem m66a_ok {M : Mm} {c : Nat} {a1 r6 r8 : Int32} {Q : Int32 → Mm → Prop} (hc : c ≤ 40) (h40 : gi M 40 = nI c) (q : ∀ f, (∀ x, x < c → f x = if ga M 50 x = 1 then ga M 51 x + 1 else ga M 51 x) → XR a1 r6 r8 Q (sa M 51 f)) : lX7_minute_66a a1 r6 r8 Q 0 M := by
  rw [show (0 : Int32) = nI 0 from rfl]
  refine up_loop (fun j m => lX7_minute_66a a1 r6 r8 Q (nI j) m) (fun j m => ∃ f, m = sa M 51 f ∧ (∀ x, x < j → f x = if ga M 50 x = 1 then ga M 51 x + 1 else ga M 51 x) ∧ ∀ x, j ≤ x → f x = ga M 51 x) c ?_ ?_ 0 M (Nat.zero_le _) ⟨ga M 51, (sa_self _ 51).symm, fun x hx => absurd hx (Nat.not_lt_zero _), fun x _ => rfl⟩
  · rintro m ⟨f, rfl, h1, h2⟩
    refine lX7_minute_66a_mk _ _ _ _ _ _ (br_t ?_ (q f h1))
    show gi M 40 ≤ _
    rw [h40]; exact nI_le (Nat.le_refl _) (by omega)
  · rintro j m hj ⟨f, rfl, h1, h2⟩ ih
    refine lX7_minute_66a_mk _ _ _ _ _ _ (br_f ?_ ?_)
    · show ¬ gi M 40 ≤ _
      rw [h40]; exact nI_ge hj (by omega)
    · have hv : vp_in (nI j) 40 := vp_in_nI (by omega) (by decide)
      rw [nI_clamp (by omega), sa_sa, sa_sa, ga_sa_eq, nI_1]
      refine ⟨hv, hv, br_c (fun e => ⟨hv, nm_e (ih _ ⟨_, rfl, fun x hx => ?_, fun x hx => ?_⟩)⟩) (fun e => ⟨hv, nm_e (ih _ ⟨_, rfl, fun x hx => ?_, fun x hx => ?_⟩)⟩)⟩
      · by_cases z : x = j
        · subst z
          have e' : ga M 50 x = 1 := e
          rw [pk_us, h2 x (Nat.le_refl _), if_pos e']
        · rw [pk_un z]; exact h1 x (by omega)
      · rw [pk_un (by omega)]; exact h2 x (by omega)
      · by_cases z : x = j
        · subst z
          have e' : ¬ ga M 50 x = 1 := e
          rw [pk_us, h2 x (Nat.le_refl _), if_neg e', Int32.add_zero]
        · rw [pk_un z]; exact h1 x (by omega)
      · rw [pk_un (by omega)]; exact h2 x (by omega)
