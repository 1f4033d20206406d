theorem one_ne : ¬ (1 : Int32) = 0 := by decide
theorem ok_trace {M : Mm} (h : Rel M) : okI wX6_trace wX7_trace M := by
  unfold okI wX6_trace wX7_trace
  exact ⟨h.1.2.1.symm, h⟩
theorem ok_fault {M : Mm} (h : Rel M) : okI wX6_fault wX7_fault M := by
  unfold okI wX6_fault wX7_fault
  exact ⟨h.1.2.2.1.symm, h⟩
theorem cases3 {v : Int32} (h : inI v 0 2) : v = 0 ∨ v = 1 ∨ v = 2 := by
  unfold inI at h
  have : v.toInt = 0 ∨ v.toInt = 1 ∨ v.toInt = 2 := by omega
  rcases this with q | q | q
  · exact Or.inl (Int32.toInt_inj.mp q)
  · exact Or.inr (Or.inl (Int32.toInt_inj.mp q))
  · exact Or.inr (Or.inr (Int32.toInt_inj.mp q))
theorem ok_order {M : Mm} (v : Int32) (h : Rel M) : okI (wX6_order v) (wX7_order v) M := by
  unfold okI wX6_order wX7_order
  refine isWithin_br 0 2 rfl rfl (fun c => ?_) (fun c => ?_)
  · exact within_n 0 2 rfl rfl c ⟨rfl, h⟩
  · refine nm_e (within_t 0 2 rfl rfl c (nm_e ⟨h.1.1.symm, ⟨rfl, h.1.2.1, h.1.2.2.1, cases3 c⟩, h.2⟩))
/-- whether there is a place, on both sides -/
theorem told_cases {n : Nat} {M : Mm} (h : RP n M) : (n = 0 ∧ gi M 11 = 0 ∧ gi M 28 = 0) ∨ (gi M 11 = 1 ∧ gi M 28 = 1 ∧ ∃ d, PDok d ∧ pn d = n ∧ PP d M ∧ PBa n M ∧ PB M ∧ PG d M) := by
  rcases h with h | ⟨d, h1, h2, h3, h4⟩
  · exact Or.inl h
  · exact Or.inr ⟨h3.1, h3.2.1, d, h1, h2, h3, h4⟩
theorem ok_toll {M : Mm} (v : Int32) (h : Rel M) : okI (wX6_toll v) (wX7_toll v) M := by
  unfold okI wX6_toll wX7_toll
  refine isWithin_br 0 999 rfl rfl (fun c => ?_) (fun c => ?_)
  · exact within_n 0 999 rfl rfl c ⟨rfl, h⟩
  · obtain ⟨hO, hS, n, k, hn3, h14, h31, hQ, hP⟩ := id h
    rcases told_cases hP with ⟨h0, h1, h2⟩ | ⟨h1, h2, d, hd, hdn, hp, hba, hb, hg⟩
    · exact br_t h1 (within_t 0 999 rfl rfl c (br_t h2 ⟨rfl, h⟩))
    · refine br_f (by rw [h1]; decide) (nm_e (within_t 0 999 rfl rfl c (br_f ?_ (nm_e ?_))))
      · show ¬ gi M 28 = 0
        rw [h2]; decide
      · refine ⟨hb.2.1.symm, hO, hS, n, k, hn3, h14, h31, hQ, Or.inr ⟨d, hd, hdn, hp, hba, ⟨c, rfl, hb.2.2⟩, hg⟩⟩
theorem ok_board {M : Mm} (r x : Int32) (h : Rel M) : okI (wX6_board r x) (wX7_board r x) M := by
  unfold okI wX6_board wX7_board
  refine isWithin_br 0 20 rfl rfl (fun c => ?_) (fun c => ?_)
  · exact within_n 0 20 rfl rfl c ⟨rfl, h⟩
  refine isWithin_br (-20) 20 rfl rfl (fun e => ?_) (fun e => ?_)
  · exact within_t 0 20 rfl rfl c (within_n (-20) 20 rfl rfl e ⟨rfl, h⟩)
  obtain ⟨hO, hS, n, k, hn3, h14, h31, hQ, hP⟩ := id h
  rcases told_cases hP with ⟨h0, h1, h2⟩ | ⟨h1, h2, d, hd, hdn, hp, hba, hb, hg⟩
  · exact br_t h1 (within_t 0 20 rfl rfl c (within_t (-20) 20 rfl rfl e (br_t h2 ⟨rfl, h⟩)))
  · have hb1 : ∀ y, inI y (-20) 20 → Rel (si (si (si (si M 16 r) 17 y) 33 r) 34 y) := fun y hy => ⟨hO, hS, n, k, hn3, h14, h31, hQ, Or.inr ⟨d, hd, hdn, hp, hba, ⟨hb.1, hb.2.1, c, rfl, hy, rfl⟩, hg⟩⟩
    have hb2 : ∀ y, gi M 16 = r → gi M 17 = y → Rel (si (si M 33 r) 34 y) := fun y q1 q2 => ⟨hO, hS, n, k, hn3, h14, h31, hQ, Or.inr ⟨d, hd, hdn, hp, hba, ⟨hb.1, hb.2.1, hb.2.2.1, q1.symm, hb.2.2.2.2.1, q2.symm⟩, hg⟩⟩
    have n1 : ¬ gi M 11 = 0 := by rw [h1]; decide
    have n2 : ¬ gi M 28 = 0 := by rw [h2]; decide
    have z0 : inI (0 : Int32) (-20) 20 := by decide
    have e33 := hb.2.2.2.1
    have e34 := hb.2.2.2.2.2
    refine br_f n1 (br_c (fun r0 => ?_) (fun r0 => ?_)) <;> refine br_c (fun a1 => br_c (fun a2 => ?_) (fun a2 => ?_)) (fun a1 => ?_)
    · refine within_t 0 20 rfl rfl c (within_t (-20) 20 rfl rfl e (br_f n2 (br_t r0 (br_t (e33.trans a1) (br_t (e34.trans a2) (nm_e (nm_e ⟨rfl, hb2 _ a1 a2⟩)))))))
    · refine nm_e (nm_e (within_t 0 20 rfl rfl c (within_t (-20) 20 rfl rfl e (br_f n2 (br_t r0 (br_t (e33.trans a1) (br_f (fun q => a2 (e34.symm.trans q)) (nm_e (nm_e ⟨rfl, hb1 _ z0⟩)))))))))
    · refine nm_e (nm_e (within_t 0 20 rfl rfl c (within_t (-20) 20 rfl rfl e (br_f n2 (br_t r0 (br_f (fun q => a1 (e33.symm.trans q)) (nm_e (nm_e ⟨rfl, hb1 _ z0⟩))))))))
    · refine within_t 0 20 rfl rfl c (within_t (-20) 20 rfl rfl e (br_f n2 (br_f r0 (br_t (e33.trans a1) (br_t (e34.trans a2) (nm_e (nm_e ⟨rfl, hb2 _ a1 a2⟩)))))))
    · refine nm_e (nm_e (within_t 0 20 rfl rfl c (within_t (-20) 20 rfl rfl e (br_f n2 (br_f r0 (br_t (e33.trans a1) (br_f (fun q => a2 (e34.symm.trans q)) (nm_e (nm_e ⟨rfl, hb1 _ e⟩)))))))))
    · refine nm_e (nm_e (within_t 0 20 rfl rfl c (within_t (-20) 20 rfl rfl e (br_f n2 (br_f r0 (br_f (fun q => a1 (e33.symm.trans q)) (nm_e (nm_e ⟨rfl, hb1 _ e⟩))))))))
