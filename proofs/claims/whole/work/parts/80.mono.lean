/-! each weakest precondition grows with what is asked behind it -/
theorem wX6_isWithin_mono {a0 : Int32} {a1 : Int32} {a2 : Int32} {Q : Int32 → Mm → Prop} {M : Mm} {R : Int32 → Mm → Prop} (hQ : ∀ z0 z1, Q z0 z1 → R z0 z1) (h : wX6_isWithin a0 a1 a2 Q M) : wX6_isWithin a0 a1 a2 R M := by
  unfold wX6_isWithin at h ⊢
  repeat (first | with_reducible exact h | with_reducible exact hQ _ _ h | with_reducible refine And.imp (fun h => ?_) (fun h => ?_) h | (intro c; replace h := h c))
theorem wX4_has_mono {a1 : Int32} {Q : Int32 → Mm → Prop} {M : Mm} {R : Int32 → Mm → Prop} (hQ : ∀ z0 z1, Q z0 z1 → R z0 z1) (h : wX4_has a1 Q M) : wX4_has a1 R M := by
  unfold wX4_has at h ⊢
  repeat (first | with_reducible exact h | with_reducible exact hQ _ _ h | with_reducible refine And.imp (fun h => ?_) (fun h => ?_) h | with_reducible refine wX6_isWithin_mono (fun _ _ h => ?_) h | (intro c; replace h := h c))
theorem wX6_at_mono {k0_ : Nat} {a1 : Int32} {Q : Int32 → Mm → Prop} {M : Mm} {R : Int32 → Mm → Prop} (hQ : ∀ z0 z1, Q z0 z1 → R z0 z1) (h : wX6_at k0_ a1 Q M) : wX6_at k0_ a1 R M := by
  unfold wX6_at at h ⊢
  repeat (first | with_reducible exact h | with_reducible exact hQ _ _ h | with_reducible refine And.imp (fun h => ?_) (fun h => ?_) h | (intro c; replace h := h c))
theorem wX4_hasNothing_mono {a1 : Int32} {Q : Int32 → Mm → Prop} {M : Mm} {R : Int32 → Mm → Prop} (hQ : ∀ z0 z1, Q z0 z1 → R z0 z1) (h : wX4_hasNothing a1 Q M) : wX4_hasNothing a1 R M := by
  unfold wX4_hasNothing at h ⊢
  repeat (first | with_reducible exact h | with_reducible exact hQ _ _ h | with_reducible refine And.imp (fun h => ?_) (fun h => ?_) h | with_reducible refine wX6_at_mono (fun _ _ h => ?_) h | (intro c; replace h := h c))
theorem wX4_isOfAnotherLane_mono {a1 : Int32} {a2 : Int32} {Q : Int32 → Mm → Prop} {M : Mm} {R : Int32 → Mm → Prop} (hQ : ∀ z0 z1, Q z0 z1 → R z0 z1) (h : wX4_isOfAnotherLane a1 a2 Q M) : wX4_isOfAnotherLane a1 a2 R M := by
  unfold wX4_isOfAnotherLane at h ⊢
  repeat (first | with_reducible exact h | with_reducible exact hQ _ _ h | with_reducible refine And.imp (fun h => ?_) (fun h => ?_) h | with_reducible refine wX4_hasNothing_mono (fun _ _ h => ?_) h | with_reducible refine wX6_at_mono (fun _ _ h => ?_) h | (intro c; replace h := h c))
theorem wX4_sizeOf_mono {a1 : Int32} {Q : Int32 → Mm → Prop} {M : Mm} {R : Int32 → Mm → Prop} (hQ : ∀ z0 z1, Q z0 z1 → R z0 z1) (h : wX4_sizeOf a1 Q M) : wX4_sizeOf a1 R M := by
  unfold wX4_sizeOf at h ⊢
  repeat (first | with_reducible exact h | with_reducible exact hQ _ _ h | with_reducible refine And.imp (fun h => ?_) (fun h => ?_) h | with_reducible refine wX6_at_mono (fun _ _ h => ?_) h | (intro c; replace h := h c))
theorem wX4_indexOf_mono {a1 : Int32} {a2 : Int32} {Q : Int32 → Mm → Prop} {M : Mm} {R : Int32 → Mm → Prop} (hQ : ∀ z0 z1, Q z0 z1 → R z0 z1) (h : wX4_indexOf a1 a2 Q M) : wX4_indexOf a1 a2 R M := by
  unfold wX4_indexOf at h ⊢
  repeat (first | with_reducible exact h | with_reducible exact hQ _ _ h | with_reducible refine And.imp (fun h => ?_) (fun h => ?_) h | (intro c; replace h := h c))
theorem wX5_codeAtNext_mono {Q : Int32 → Mm → Prop} {M : Mm} {R : Int32 → Mm → Prop} (hQ : ∀ z0 z1, Q z0 z1 → R z0 z1) (h : wX5_codeAtNext Q M) : wX5_codeAtNext R M := by
  unfold wX5_codeAtNext at h ⊢
  repeat (first | with_reducible exact h | with_reducible exact hQ _ _ h | with_reducible refine And.imp (fun h => ?_) (fun h => ?_) h | with_reducible refine wX6_at_mono (fun _ _ h => ?_) h | (intro c; replace h := h c))
theorem wX5_takes_mono {a1 : Int32} {Q : Int32 → Mm → Prop} {M : Mm} {R : Int32 → Mm → Prop} (hQ : ∀ z0 z1, Q z0 z1 → R z0 z1) (h : wX5_takes a1 Q M) : wX5_takes a1 R M := by
  unfold wX5_takes at h ⊢
  repeat (first | with_reducible exact h | with_reducible exact hQ _ _ h | with_reducible refine And.imp (fun h => ?_) (fun h => ?_) h | with_reducible refine wX5_codeAtNext_mono (fun _ _ h => ?_) h | (intro c; replace h := h c))
theorem wX5_isDigitNext_mono {Q : Int32 → Mm → Prop} {M : Mm} {R : Int32 → Mm → Prop} (hQ : ∀ z0 z1, Q z0 z1 → R z0 z1) (h : wX5_isDigitNext Q M) : wX5_isDigitNext R M := by
  unfold wX5_isDigitNext at h ⊢
  repeat (first | with_reducible exact h | with_reducible exact hQ _ _ h | with_reducible refine And.imp (fun h => ?_) (fun h => ?_) h | with_reducible refine wX5_codeAtNext_mono (fun _ _ h => ?_) h | with_reducible refine wX6_isWithin_mono (fun _ _ h => ?_) h | (intro c; replace h := h c))
theorem bX5_takesNumber_13_mono {a1 : Int32} {a2 : Int32} {y3_13 : Int32} {Q : Int32 → Mm → Prop} {J_13 : Int32 → Mm → Prop} {x4_13 : Int32} {m13 : Mm} {R : Int32 → Mm → Prop} (hQ : ∀ z0 z1, Q z0 z1 → R z0 z1) (h : bX5_takesNumber_13 a1 a2 y3_13 Q J_13 x4_13 m13) : bX5_takesNumber_13 a1 a2 y3_13 R J_13 x4_13 m13 := by
  unfold bX5_takesNumber_13 at h ⊢
  repeat (first | with_reducible exact h | with_reducible exact hQ _ _ h | with_reducible refine And.imp (fun h => ?_) (fun h => ?_) h | with_reducible refine wX6_isWithin_mono (fun _ _ h => ?_) h | with_reducible refine wX5_isDigitNext_mono (fun _ _ h => ?_) h | with_reducible refine wX5_codeAtNext_mono (fun _ _ h => ?_) h | (intro c; replace h := h c))
theorem lX5_takesNumber_13_mono {a1 : Int32} {a2 : Int32} {y3_13 : Int32} {Q : Int32 → Mm → Prop} {x4_13 : Int32} {m13 : Mm} {R : Int32 → Mm → Prop} (hQ : ∀ z0 z1, Q z0 z1 → R z0 z1) (h : lX5_takesNumber_13 a1 a2 y3_13 Q x4_13 m13) : lX5_takesNumber_13 a1 a2 y3_13 R x4_13 m13 := fun I hI => h I (fun J hJ _ _ hb => hI J hJ _ _ (bX5_takesNumber_13_mono hQ hb))
theorem wX5_takesNumber_mono {a1 : Int32} {a2 : Int32} {Q : Int32 → Mm → Prop} {M : Mm} {R : Int32 → Mm → Prop} (hQ : ∀ z0 z1, Q z0 z1 → R z0 z1) (h : wX5_takesNumber a1 a2 Q M) : wX5_takesNumber a1 a2 R M := by
  unfold wX5_takesNumber at h ⊢
  repeat (first | with_reducible exact h | with_reducible exact hQ _ _ h | with_reducible refine And.imp (fun h => ?_) (fun h => ?_) h | with_reducible refine lX5_takesNumber_13_mono (fun _ _ h => ?_) h | (intro c; replace h := h c))
theorem wX6_set_mono {k0_ : Nat} {a1 : Int32} {a2 : Int32} {Q : Mm → Prop} {M : Mm} {R : Mm → Prop} (hQ : ∀ z0, Q z0 → R z0) (h : wX6_set k0_ a1 a2 Q M) : wX6_set k0_ a1 a2 R M := by
  unfold wX6_set at h ⊢
  repeat (first | with_reducible exact h | with_reducible exact hQ _ h | with_reducible refine And.imp (fun h => ?_) (fun h => ?_) h | (intro c; replace h := h c))
theorem wX5_takesSort_mono {a1 : Int32} {Q : Int32 → Mm → Prop} {M : Mm} {R : Int32 → Mm → Prop} (hQ : ∀ z0 z1, Q z0 z1 → R z0 z1) (h : wX5_takesSort a1 Q M) : wX5_takesSort a1 R M := by
  unfold wX5_takesSort at h ⊢
  repeat (first | with_reducible exact h | with_reducible exact hQ _ _ h | with_reducible refine And.imp (fun h => ?_) (fun h => ?_) h | with_reducible refine wX5_takes_mono (fun _ _ h => ?_) h | with_reducible refine wX5_takesNumber_mono (fun _ _ h => ?_) h | with_reducible refine wX6_set_mono (fun _ h => ?_) h | (intro c; replace h := h c))
theorem bX5_isTaken_104_mono {Q : Int32 → Mm → Prop} {J_104 : Int32 → Mm → Prop} {x4_104 : Int32} {m104 : Mm} {R : Int32 → Mm → Prop} (hQ : ∀ z0 z1, Q z0 z1 → R z0 z1) (h : bX5_isTaken_104 Q J_104 x4_104 m104) : bX5_isTaken_104 R J_104 x4_104 m104 := by
  unfold bX5_isTaken_104 at h ⊢
  repeat (first | with_reducible exact h | with_reducible exact hQ _ _ h | with_reducible refine And.imp (fun h => ?_) (fun h => ?_) h | with_reducible refine wX5_takes_mono (fun _ _ h => ?_) h | with_reducible refine wX5_takesSort_mono (fun _ _ h => ?_) h | (intro c; replace h := h c))
theorem lX5_isTaken_104_mono {Q : Int32 → Mm → Prop} {x4_104 : Int32} {m104 : Mm} {R : Int32 → Mm → Prop} (hQ : ∀ z0 z1, Q z0 z1 → R z0 z1) (h : lX5_isTaken_104 Q x4_104 m104) : lX5_isTaken_104 R x4_104 m104 := fun I hI => h I (fun J hJ _ _ hb => hI J hJ _ _ (bX5_isTaken_104_mono hQ hb))
theorem wX5_isTaken_mono {a1 : Int32} {a2 : Int32} {a3 : Int32} {Q : Int32 → Mm → Prop} {M : Mm} {R : Int32 → Mm → Prop} (hQ : ∀ z0 z1, Q z0 z1 → R z0 z1) (h : wX5_isTaken a1 a2 a3 Q M) : wX5_isTaken a1 a2 a3 R M := by
  unfold wX5_isTaken at h ⊢
  repeat (first | with_reducible exact h | with_reducible exact hQ _ _ h | with_reducible refine And.imp (fun h => ?_) (fun h => ?_) h | with_reducible refine wX4_indexOf_mono (fun _ _ h => ?_) h | with_reducible refine wX5_takes_mono (fun _ _ h => ?_) h | with_reducible refine wX5_takesNumber_mono (fun _ _ h => ?_) h | with_reducible refine lX5_isTaken_104_mono (fun _ _ h => ?_) h | (intro c; replace h := h c))
theorem bX2_becomes_31_mono {Q : Mm → Prop} {J_31 : Int32 → Mm → Prop} {x2_31 : Int32} {m31 : Mm} {R : Mm → Prop} (hQ : ∀ z0, Q z0 → R z0) (h : bX2_becomes_31 Q J_31 x2_31 m31) : bX2_becomes_31 R J_31 x2_31 m31 := by
  unfold bX2_becomes_31 at h ⊢
  repeat (first | with_reducible exact h | with_reducible exact hQ _ h | with_reducible refine And.imp (fun h => ?_) (fun h => ?_) h | with_reducible refine wX6_at_mono (fun _ _ h => ?_) h | with_reducible refine wX6_set_mono (fun _ h => ?_) h | (intro c; replace h := h c))
theorem lX2_becomes_31_mono {Q : Mm → Prop} {x2_31 : Int32} {m31 : Mm} {R : Mm → Prop} (hQ : ∀ z0, Q z0 → R z0) (h : lX2_becomes_31 Q x2_31 m31) : lX2_becomes_31 R x2_31 m31 := fun I hI => h I (fun J hJ _ _ hb => hI J hJ _ _ (bX2_becomes_31_mono hQ hb))
theorem wX2_becomes_mono {Q : Mm → Prop} {M : Mm} {R : Mm → Prop} (hQ : ∀ z0, Q z0 → R z0) (h : wX2_becomes Q M) : wX2_becomes R M := by
  unfold wX2_becomes at h ⊢
  repeat (first | with_reducible exact h | with_reducible exact hQ _ h | with_reducible refine And.imp (fun h => ?_) (fun h => ?_) h | with_reducible refine lX2_becomes_31_mono (fun _ h => ?_) h | (intro c; replace h := h c))
theorem wX3_empties_mono {Q : Mm → Prop} {M : Mm} {R : Mm → Prop} (hQ : ∀ z0, Q z0 → R z0) (h : wX3_empties Q M) : wX3_empties R M := by
  unfold wX3_empties at h ⊢
  repeat (first | with_reducible exact h | with_reducible exact hQ _ h | with_reducible refine And.imp (fun h => ?_) (fun h => ?_) h | (intro c; replace h := h c))
theorem bX2_twelfthsTogether_4_mono {Q : Int32 → Mm → Prop} {J_4 : Int32 → Int32 → Mm → Prop} {x1_4 : Int32} {x2_4 : Int32} {m4 : Mm} {R : Int32 → Mm → Prop} (hQ : ∀ z0 z1, Q z0 z1 → R z0 z1) (h : bX2_twelfthsTogether_4 Q J_4 x1_4 x2_4 m4) : bX2_twelfthsTogether_4 R J_4 x1_4 x2_4 m4 := by
  unfold bX2_twelfthsTogether_4 at h ⊢
  repeat (first | with_reducible exact h | with_reducible exact hQ _ _ h | with_reducible refine And.imp (fun h => ?_) (fun h => ?_) h | with_reducible refine wX6_at_mono (fun _ _ h => ?_) h | (intro c; replace h := h c))
theorem lX2_twelfthsTogether_4_mono {Q : Int32 → Mm → Prop} {x1_4 : Int32} {x2_4 : Int32} {m4 : Mm} {R : Int32 → Mm → Prop} (hQ : ∀ z0 z1, Q z0 z1 → R z0 z1) (h : lX2_twelfthsTogether_4 Q x1_4 x2_4 m4) : lX2_twelfthsTogether_4 R x1_4 x2_4 m4 := fun I hI => h I (fun J hJ _ _ _ hb => hI J hJ _ _ _ (bX2_twelfthsTogether_4_mono hQ hb))
theorem wX2_twelfthsTogether_mono {Q : Int32 → Mm → Prop} {M : Mm} {R : Int32 → Mm → Prop} (hQ : ∀ z0 z1, Q z0 z1 → R z0 z1) (h : wX2_twelfthsTogether Q M) : wX2_twelfthsTogether R M := by
  unfold wX2_twelfthsTogether at h ⊢
  repeat (first | with_reducible exact h | with_reducible exact hQ _ _ h | with_reducible refine And.imp (fun h => ?_) (fun h => ?_) h | with_reducible refine lX2_twelfthsTogether_4_mono (fun _ _ h => ?_) h | (intro c; replace h := h c))
theorem wX2_has_mono {a1 : Int32} {Q : Int32 → Mm → Prop} {M : Mm} {R : Int32 → Mm → Prop} (hQ : ∀ z0 z1, Q z0 z1 → R z0 z1) (h : wX2_has a1 Q M) : wX2_has a1 R M := by
  unfold wX2_has at h ⊢
  repeat (first | with_reducible exact h | with_reducible exact hQ _ _ h | with_reducible refine And.imp (fun h => ?_) (fun h => ?_) h | with_reducible refine wX6_isWithin_mono (fun _ _ h => ?_) h | (intro c; replace h := h c))
theorem bX2_hisBarUnseen_2_mono {a1 : Int32} {a2 : Int32} {Q : Int32 → Mm → Prop} {J_2 : Int32 → Mm → Prop} {x3_2 : Int32} {m2 : Mm} {R : Int32 → Mm → Prop} (hQ : ∀ z0 z1, Q z0 z1 → R z0 z1) (h : bX2_hisBarUnseen_2 a1 a2 Q J_2 x3_2 m2) : bX2_hisBarUnseen_2 a1 a2 R J_2 x3_2 m2 := by
  unfold bX2_hisBarUnseen_2 at h ⊢
  repeat (first | with_reducible exact h | with_reducible exact hQ _ _ h | with_reducible refine And.imp (fun h => ?_) (fun h => ?_) h | with_reducible refine wX6_at_mono (fun _ _ h => ?_) h | (intro c; replace h := h c))
theorem lX2_hisBarUnseen_2_mono {a1 : Int32} {a2 : Int32} {Q : Int32 → Mm → Prop} {x3_2 : Int32} {m2 : Mm} {R : Int32 → Mm → Prop} (hQ : ∀ z0 z1, Q z0 z1 → R z0 z1) (h : lX2_hisBarUnseen_2 a1 a2 Q x3_2 m2) : lX2_hisBarUnseen_2 a1 a2 R x3_2 m2 := fun I hI => h I (fun J hJ _ _ hb => hI J hJ _ _ (bX2_hisBarUnseen_2_mono hQ hb))
theorem wX2_hisBarUnseen_mono {a1 : Int32} {a2 : Int32} {Q : Int32 → Mm → Prop} {M : Mm} {R : Int32 → Mm → Prop} (hQ : ∀ z0 z1, Q z0 z1 → R z0 z1) (h : wX2_hisBarUnseen a1 a2 Q M) : wX2_hisBarUnseen a1 a2 R M := by
  unfold wX2_hisBarUnseen at h ⊢
  repeat (first | with_reducible exact h | with_reducible exact hQ _ _ h | with_reducible refine And.imp (fun h => ?_) (fun h => ?_) h | with_reducible refine lX2_hisBarUnseen_2_mono (fun _ _ h => ?_) h | (intro c; replace h := h c))
theorem wX2_minutesAsTold_mono {a1 : Int32} {Q : Int32 → Mm → Prop} {M : Mm} {R : Int32 → Mm → Prop} (hQ : ∀ z0 z1, Q z0 z1 → R z0 z1) (h : wX2_minutesAsTold a1 Q M) : wX2_minutesAsTold a1 R M := by
  unfold wX2_minutesAsTold at h ⊢
  repeat (first | with_reducible exact h | with_reducible exact hQ _ _ h | with_reducible refine And.imp (fun h => ?_) (fun h => ?_) h | (intro c; replace h := h c))
theorem bX2_hisBar_19_mono {a1 : Int32} {Q : Int32 → Mm → Prop} {J_19 : Int32 → Mm → Prop} {x2_19 : Int32} {m19 : Mm} {R : Int32 → Mm → Prop} (hQ : ∀ z0 z1, Q z0 z1 → R z0 z1) (h : bX2_hisBar_19 a1 Q J_19 x2_19 m19) : bX2_hisBar_19 a1 R J_19 x2_19 m19 := by
  unfold bX2_hisBar_19 at h ⊢
  repeat (first | with_reducible exact h | with_reducible exact hQ _ _ h | with_reducible refine And.imp (fun h => ?_) (fun h => ?_) h | with_reducible refine wX6_at_mono (fun _ _ h => ?_) h | with_reducible refine wX2_minutesAsTold_mono (fun _ _ h => ?_) h | (intro c; replace h := h c))
theorem lX2_hisBar_19_mono {a1 : Int32} {Q : Int32 → Mm → Prop} {x2_19 : Int32} {m19 : Mm} {R : Int32 → Mm → Prop} (hQ : ∀ z0 z1, Q z0 z1 → R z0 z1) (h : lX2_hisBar_19 a1 Q x2_19 m19) : lX2_hisBar_19 a1 R x2_19 m19 := fun I hI => h I (fun J hJ _ _ hb => hI J hJ _ _ (bX2_hisBar_19_mono hQ hb))
theorem wX2_hisBar_mono {a1 : Int32} {Q : Int32 → Mm → Prop} {M : Mm} {R : Int32 → Mm → Prop} (hQ : ∀ z0 z1, Q z0 z1 → R z0 z1) (h : wX2_hisBar a1 Q M) : wX2_hisBar a1 R M := by
  unfold wX2_hisBar at h ⊢
  repeat (first | with_reducible exact h | with_reducible exact hQ _ _ h | with_reducible refine And.imp (fun h => ?_) (fun h => ?_) h | with_reducible refine wX2_hisBarUnseen_mono (fun _ _ h => ?_) h | with_reducible refine lX2_hisBar_19_mono (fun _ _ h => ?_) h | (intro c; replace h := h c))
theorem bX6_rowsOf_4_mono {a0 : Int32} {Q : Int32 → Mm → Prop} {J_4 : Int32 → Int32 → Mm → Prop} {x1_4 : Int32} {x2_4 : Int32} {m4 : Mm} {R : Int32 → Mm → Prop} (hQ : ∀ z0 z1, Q z0 z1 → R z0 z1) (h : bX6_rowsOf_4 a0 Q J_4 x1_4 x2_4 m4) : bX6_rowsOf_4 a0 R J_4 x1_4 x2_4 m4 := by
  unfold bX6_rowsOf_4 at h ⊢
  repeat (first | with_reducible exact h | with_reducible exact hQ _ _ h | with_reducible refine And.imp (fun h => ?_) (fun h => ?_) h | (intro c; replace h := h c))
theorem lX6_rowsOf_4_mono {a0 : Int32} {Q : Int32 → Mm → Prop} {x1_4 : Int32} {x2_4 : Int32} {m4 : Mm} {R : Int32 → Mm → Prop} (hQ : ∀ z0 z1, Q z0 z1 → R z0 z1) (h : lX6_rowsOf_4 a0 Q x1_4 x2_4 m4) : lX6_rowsOf_4 a0 R x1_4 x2_4 m4 := fun I hI => h I (fun J hJ _ _ _ hb => hI J hJ _ _ _ (bX6_rowsOf_4_mono hQ hb))
theorem wX6_rowsOf_mono {a0 : Int32} {Q : Int32 → Mm → Prop} {M : Mm} {R : Int32 → Mm → Prop} (hQ : ∀ z0 z1, Q z0 z1 → R z0 z1) (h : wX6_rowsOf a0 Q M) : wX6_rowsOf a0 R M := by
  unfold wX6_rowsOf at h ⊢
  repeat (first | with_reducible exact h | with_reducible exact hQ _ _ h | with_reducible refine And.imp (fun h => ?_) (fun h => ?_) h | with_reducible refine lX6_rowsOf_4_mono (fun _ _ h => ?_) h | (intro c; replace h := h c))
theorem bX2_joining_5_mono {k1_ : Nat} {a2 : Int32} {Q : Int32 → Mm → Prop} {J_5 : Int32 → Int32 → Mm → Prop} {x3_5 : Int32} {x4_5 : Int32} {m5 : Mm} {R : Int32 → Mm → Prop} (hQ : ∀ z0 z1, Q z0 z1 → R z0 z1) (h : bX2_joining_5 k1_ a2 Q J_5 x3_5 x4_5 m5) : bX2_joining_5 k1_ a2 R J_5 x3_5 x4_5 m5 := by
  unfold bX2_joining_5 at h ⊢
  repeat (first | with_reducible exact h | with_reducible exact hQ _ _ h | with_reducible refine And.imp (fun h => ?_) (fun h => ?_) h | with_reducible refine wX6_at_mono (fun _ _ h => ?_) h | (intro c; replace h := h c))
theorem lX2_joining_5_mono {k1_ : Nat} {a2 : Int32} {Q : Int32 → Mm → Prop} {x3_5 : Int32} {x4_5 : Int32} {m5 : Mm} {R : Int32 → Mm → Prop} (hQ : ∀ z0 z1, Q z0 z1 → R z0 z1) (h : lX2_joining_5 k1_ a2 Q x3_5 x4_5 m5) : lX2_joining_5 k1_ a2 R x3_5 x4_5 m5 := fun I hI => h I (fun J hJ _ _ _ hb => hI J hJ _ _ _ (bX2_joining_5_mono hQ hb))
theorem wX2_joining_mono {k1_ : Nat} {a2 : Int32} {Q : Int32 → Mm → Prop} {M : Mm} {R : Int32 → Mm → Prop} (hQ : ∀ z0 z1, Q z0 z1 → R z0 z1) (h : wX2_joining k1_ a2 Q M) : wX2_joining k1_ a2 R M := by
  unfold wX2_joining at h ⊢
  repeat (first | with_reducible exact h | with_reducible exact hQ _ _ h | with_reducible refine And.imp (fun h => ?_) (fun h => ?_) h | with_reducible refine lX2_joining_5_mono (fun _ _ h => ?_) h | (intro c; replace h := h c))
theorem wX6_set__mono {k0_ : Nat} {a1 : Int32} {a2 : Int64} {Q : Mm → Prop} {M : Mm} {R : Mm → Prop} (hQ : ∀ z0, Q z0 → R z0) (h : wX6_set_ k0_ a1 a2 Q M) : wX6_set_ k0_ a1 a2 R M := by
  unfold wX6_set_ at h ⊢
  repeat (first | with_reducible exact h | with_reducible exact hQ _ h | with_reducible refine And.imp (fun h => ?_) (fun h => ?_) h | (intro c; replace h := h c))
theorem wX6_at__mono {k0_ : Nat} {a1 : Int32} {Q : Int64 → Mm → Prop} {M : Mm} {R : Int64 → Mm → Prop} (hQ : ∀ z0 z1, Q z0 z1 → R z0 z1) (h : wX6_at_ k0_ a1 Q M) : wX6_at_ k0_ a1 R M := by
  unfold wX6_at_ at h ⊢
  repeat (first | with_reducible exact h | with_reducible exact hQ _ _ h | with_reducible refine And.imp (fun h => ?_) (fun h => ?_) h | (intro c; replace h := h c))
theorem wJ9_floorDiv_f86c9_mono {a0 : Int64} {a2 : Int64} {Q : Int64 → Mm → Prop} {M : Mm} {R : Int64 → Mm → Prop} (hQ : ∀ z0 z1, Q z0 z1 → R z0 z1) (h : wJ9_floorDiv_f86c9 a0 a2 Q M) : wJ9_floorDiv_f86c9 a0 a2 R M := by
  unfold wJ9_floorDiv_f86c9 at h ⊢
  repeat (first | with_reducible exact h | with_reducible exact hQ _ _ h | with_reducible refine And.imp (fun h => ?_) (fun h => ?_) h | (intro c; replace h := h c))
theorem bX6_compareShares_17_mono {Q : Int32 → Mm → Prop} {J_17 : Int64 → Int64 → Int64 → Int64 → Int32 → Mm → Prop} {x8_17 : Int64} {x10_17 : Int64} {x12_17 : Int64} {x14_17 : Int64} {x16_17 : Int32} {m17 : Mm} {R : Int32 → Mm → Prop} (hQ : ∀ z0 z1, Q z0 z1 → R z0 z1) (h : bX6_compareShares_17 Q J_17 x8_17 x10_17 x12_17 x14_17 x16_17 m17) : bX6_compareShares_17 R J_17 x8_17 x10_17 x12_17 x14_17 x16_17 m17 := by
  unfold bX6_compareShares_17 at h ⊢
  repeat (first | with_reducible exact h | with_reducible exact hQ _ _ h | with_reducible refine And.imp (fun h => ?_) (fun h => ?_) h | with_reducible refine wJ9_floorDiv_f86c9_mono (fun _ _ h => ?_) h | (intro c; replace h := h c))
theorem lX6_compareShares_17_mono {Q : Int32 → Mm → Prop} {x8_17 : Int64} {x10_17 : Int64} {x12_17 : Int64} {x14_17 : Int64} {x16_17 : Int32} {m17 : Mm} {R : Int32 → Mm → Prop} (hQ : ∀ z0 z1, Q z0 z1 → R z0 z1) (h : lX6_compareShares_17 Q x8_17 x10_17 x12_17 x14_17 x16_17 m17) : lX6_compareShares_17 R x8_17 x10_17 x12_17 x14_17 x16_17 m17 := fun I hI => h I (fun J hJ _ _ _ _ _ _ hb => hI J hJ _ _ _ _ _ _ (bX6_compareShares_17_mono hQ hb))
theorem wX6_compareShares_mono {a0 : Int64} {a2 : Int64} {a4 : Int64} {a6 : Int64} {Q : Int32 → Mm → Prop} {M : Mm} {R : Int32 → Mm → Prop} (hQ : ∀ z0 z1, Q z0 z1 → R z0 z1) (h : wX6_compareShares a0 a2 a4 a6 Q M) : wX6_compareShares a0 a2 a4 a6 R M := by
  unfold wX6_compareShares at h ⊢
  repeat (first | with_reducible exact h | with_reducible exact hQ _ _ h | with_reducible refine And.imp (fun h => ?_) (fun h => ?_) h | with_reducible refine lX6_compareShares_17_mono (fun _ _ h => ?_) h | (intro c; replace h := h c))
theorem bX6_commonDivisor_9_mono {Q : Int64 → Mm → Prop} {J_9 : Int64 → Int64 → Int32 → Mm → Prop} {x4_9 : Int64} {x6_9 : Int64} {x8_9 : Int32} {m9 : Mm} {R : Int64 → Mm → Prop} (hQ : ∀ z0 z1, Q z0 z1 → R z0 z1) (h : bX6_commonDivisor_9 Q J_9 x4_9 x6_9 x8_9 m9) : bX6_commonDivisor_9 R J_9 x4_9 x6_9 x8_9 m9 := by
  unfold bX6_commonDivisor_9 at h ⊢
  repeat (first | with_reducible exact h | with_reducible exact hQ _ _ h | with_reducible refine And.imp (fun h => ?_) (fun h => ?_) h | (intro c; replace h := h c))
theorem lX6_commonDivisor_9_mono {Q : Int64 → Mm → Prop} {x4_9 : Int64} {x6_9 : Int64} {x8_9 : Int32} {m9 : Mm} {R : Int64 → Mm → Prop} (hQ : ∀ z0 z1, Q z0 z1 → R z0 z1) (h : lX6_commonDivisor_9 Q x4_9 x6_9 x8_9 m9) : lX6_commonDivisor_9 R x4_9 x6_9 x8_9 m9 := fun I hI => h I (fun J hJ _ _ _ _ hb => hI J hJ _ _ _ _ (bX6_commonDivisor_9_mono hQ hb))
theorem wX6_commonDivisor_mono {a0 : Int64} {a2 : Int64} {Q : Int64 → Mm → Prop} {M : Mm} {R : Int64 → Mm → Prop} (hQ : ∀ z0 z1, Q z0 z1 → R z0 z1) (h : wX6_commonDivisor a0 a2 Q M) : wX6_commonDivisor a0 a2 R M := by
  unfold wX6_commonDivisor at h ⊢
  repeat (first | with_reducible exact h | with_reducible exact hQ _ _ h | with_reducible refine And.imp (fun h => ?_) (fun h => ?_) h | with_reducible refine lX6_commonDivisor_9_mono (fun _ _ h => ?_) h | (intro c; replace h := h c))
theorem wX6_share_mono {a0 : Int64} {a2 : Int64} {a4 : Int32} {Q : Int64 → Mm → Prop} {M : Mm} {R : Int64 → Mm → Prop} (hQ : ∀ z0 z1, Q z0 z1 → R z0 z1) (h : wX6_share a0 a2 a4 Q M) : wX6_share a0 a2 a4 R M := by
  unfold wX6_share at h ⊢
  repeat (first | with_reducible exact h | with_reducible exact hQ _ _ h | with_reducible refine And.imp (fun h => ?_) (fun h => ?_) h | with_reducible refine wX6_commonDivisor_mono (fun _ _ h => ?_) h | (intro c; replace h := h c))
theorem bX2_sortDrawn_4_mono {a1 : Int32} {Q : Int32 → Mm → Prop} {J_4 : Int32 → Int32 → Mm → Prop} {x2_4 : Int32} {x3_4 : Int32} {m4 : Mm} {R : Int32 → Mm → Prop} (hQ : ∀ z0 z1, Q z0 z1 → R z0 z1) (h : bX2_sortDrawn_4 a1 Q J_4 x2_4 x3_4 m4) : bX2_sortDrawn_4 a1 R J_4 x2_4 x3_4 m4 := by
  unfold bX2_sortDrawn_4 at h ⊢
  repeat (first | with_reducible exact h | with_reducible exact hQ _ _ h | with_reducible refine And.imp (fun h => ?_) (fun h => ?_) h | with_reducible refine wX6_at_mono (fun _ _ h => ?_) h | (intro c; replace h := h c))
theorem lX2_sortDrawn_4_mono {a1 : Int32} {Q : Int32 → Mm → Prop} {x2_4 : Int32} {x3_4 : Int32} {m4 : Mm} {R : Int32 → Mm → Prop} (hQ : ∀ z0 z1, Q z0 z1 → R z0 z1) (h : lX2_sortDrawn_4 a1 Q x2_4 x3_4 m4) : lX2_sortDrawn_4 a1 R x2_4 x3_4 m4 := fun I hI => h I (fun J hJ _ _ _ hb => hI J hJ _ _ _ (bX2_sortDrawn_4_mono hQ hb))
theorem wX2_sortDrawn_mono {a1 : Int32} {Q : Int32 → Mm → Prop} {M : Mm} {R : Int32 → Mm → Prop} (hQ : ∀ z0 z1, Q z0 z1 → R z0 z1) (h : wX2_sortDrawn a1 Q M) : wX2_sortDrawn a1 R M := by
  unfold wX2_sortDrawn at h ⊢
  repeat (first | with_reducible exact h | with_reducible exact hQ _ _ h | with_reducible refine And.imp (fun h => ?_) (fun h => ?_) h | with_reducible refine lX2_sortDrawn_4_mono (fun _ _ h => ?_) h | (intro c; replace h := h c))
theorem wX3_isFull_mono {Q : Int32 → Mm → Prop} {M : Mm} {R : Int32 → Mm → Prop} (hQ : ∀ z0 z1, Q z0 z1 → R z0 z1) (h : wX3_isFull Q M) : wX3_isFull R M := by
  unfold wX3_isFull at h ⊢
  repeat (first | with_reducible exact h | with_reducible exact hQ _ _ h | with_reducible refine And.imp (fun h => ?_) (fun h => ?_) h | (intro c; replace h := h c))
theorem bX3_allWait_2_mono {Q : Mm → Prop} {J_2 : Int32 → Mm → Prop} {x1_2 : Int32} {m2 : Mm} {R : Mm → Prop} (hQ : ∀ z0, Q z0 → R z0) (h : bX3_allWait_2 Q J_2 x1_2 m2) : bX3_allWait_2 R J_2 x1_2 m2 := by
  unfold bX3_allWait_2 at h ⊢
  repeat (first | with_reducible exact h | with_reducible exact hQ _ h | with_reducible refine And.imp (fun h => ?_) (fun h => ?_) h | with_reducible refine wX6_at_mono (fun _ _ h => ?_) h | with_reducible refine wX6_set_mono (fun _ h => ?_) h | (intro c; replace h := h c))
theorem lX3_allWait_2_mono {Q : Mm → Prop} {x1_2 : Int32} {m2 : Mm} {R : Mm → Prop} (hQ : ∀ z0, Q z0 → R z0) (h : lX3_allWait_2 Q x1_2 m2) : lX3_allWait_2 R x1_2 m2 := fun I hI => h I (fun J hJ _ _ hb => hI J hJ _ _ (bX3_allWait_2_mono hQ hb))
theorem wX3_allWait_mono {Q : Mm → Prop} {M : Mm} {R : Mm → Prop} (hQ : ∀ z0, Q z0 → R z0) (h : wX3_allWait Q M) : wX3_allWait R M := by
  unfold wX3_allWait at h ⊢
  repeat (first | with_reducible exact h | with_reducible exact hQ _ h | with_reducible refine And.imp (fun h => ?_) (fun h => ?_) h | with_reducible refine lX3_allWait_2_mono (fun _ h => ?_) h | (intro c; replace h := h c))
theorem wX3_worthOf_mono {a1 : Int32} {Q : Int32 → Mm → Prop} {M : Mm} {R : Int32 → Mm → Prop} (hQ : ∀ z0 z1, Q z0 z1 → R z0 z1) (h : wX3_worthOf a1 Q M) : wX3_worthOf a1 R M := by
  unfold wX3_worthOf at h ⊢
  repeat (first | with_reducible exact h | with_reducible exact hQ _ _ h | with_reducible refine And.imp (fun h => ?_) (fun h => ?_) h | with_reducible refine wX6_at_mono (fun _ _ h => ?_) h | (intro c; replace h := h c))
theorem bX3_nextBy_23_mono {Q : Int32 → Mm → Prop} {J_23 : Int32 → Int32 → Mm → Prop} {x3_23 : Int32} {x4_23 : Int32} {m23 : Mm} {R : Int32 → Mm → Prop} (hQ : ∀ z0 z1, Q z0 z1 → R z0 z1) (h : bX3_nextBy_23 Q J_23 x3_23 x4_23 m23) : bX3_nextBy_23 R J_23 x3_23 x4_23 m23 := by
  unfold bX3_nextBy_23 at h ⊢
  repeat (first | with_reducible exact h | with_reducible exact hQ _ _ h | with_reducible refine And.imp (fun h => ?_) (fun h => ?_) h | with_reducible refine wX3_worthOf_mono (fun _ _ h => ?_) h | (intro c; replace h := h c))
theorem lX3_nextBy_23_mono {Q : Int32 → Mm → Prop} {x3_23 : Int32} {x4_23 : Int32} {m23 : Mm} {R : Int32 → Mm → Prop} (hQ : ∀ z0 z1, Q z0 z1 → R z0 z1) (h : lX3_nextBy_23 Q x3_23 x4_23 m23) : lX3_nextBy_23 R x3_23 x4_23 m23 := fun I hI => h I (fun J hJ _ _ _ hb => hI J hJ _ _ _ (bX3_nextBy_23_mono hQ hb))
theorem wX3_nextBy_mono {a1 : Int32} {Q : Int32 → Mm → Prop} {M : Mm} {R : Int32 → Mm → Prop} (hQ : ∀ z0 z1, Q z0 z1 → R z0 z1) (h : wX3_nextBy a1 Q M) : wX3_nextBy a1 R M := by
  unfold wX3_nextBy at h ⊢
  repeat (first | with_reducible exact h | with_reducible exact hQ _ _ h | with_reducible refine And.imp (fun h => ?_) (fun h => ?_) h | with_reducible refine lX3_nextBy_23_mono (fun _ _ h => ?_) h | (intro c; replace h := h c))
theorem bX3_takeOut_4_mono {Q : Mm → Prop} {J_4 : Int32 → Mm → Prop} {x2_4 : Int32} {m4 : Mm} {R : Mm → Prop} (hQ : ∀ z0, Q z0 → R z0) (h : bX3_takeOut_4 Q J_4 x2_4 m4) : bX3_takeOut_4 R J_4 x2_4 m4 := by
  unfold bX3_takeOut_4 at h ⊢
  repeat (first | with_reducible exact h | with_reducible exact hQ _ h | with_reducible refine And.imp (fun h => ?_) (fun h => ?_) h | with_reducible refine wX6_at_mono (fun _ _ h => ?_) h | with_reducible refine wX6_set_mono (fun _ h => ?_) h | (intro c; replace h := h c))
theorem lX3_takeOut_4_mono {Q : Mm → Prop} {x2_4 : Int32} {m4 : Mm} {R : Mm → Prop} (hQ : ∀ z0, Q z0 → R z0) (h : lX3_takeOut_4 Q x2_4 m4) : lX3_takeOut_4 R x2_4 m4 := fun I hI => h I (fun J hJ _ _ hb => hI J hJ _ _ (bX3_takeOut_4_mono hQ hb))
theorem wX3_takeOut_mono {a1 : Int32} {Q : Mm → Prop} {M : Mm} {R : Mm → Prop} (hQ : ∀ z0, Q z0 → R z0) (h : wX3_takeOut a1 Q M) : wX3_takeOut a1 R M := by
  unfold wX3_takeOut at h ⊢
  repeat (first | with_reducible exact h | with_reducible exact hQ _ h | with_reducible refine And.imp (fun h => ?_) (fun h => ?_) h | with_reducible refine lX3_takeOut_4_mono (fun _ h => ?_) h | (intro c; replace h := h c))
theorem wX3_serve_mono {a1 : Int32} {Q : Int32 → Mm → Prop} {M : Mm} {R : Int32 → Mm → Prop} (hQ : ∀ z0 z1, Q z0 z1 → R z0 z1) (h : wX3_serve a1 Q M) : wX3_serve a1 R M := by
  unfold wX3_serve at h ⊢
  repeat (first | with_reducible exact h | with_reducible exact hQ _ _ h | with_reducible refine And.imp (fun h => ?_) (fun h => ?_) h | with_reducible refine wX6_at_mono (fun _ _ h => ?_) h | with_reducible refine wX3_takeOut_mono (fun _ h => ?_) h | with_reducible refine wX6_set_mono (fun _ h => ?_) h | (intro c; replace h := h c))
theorem wX3_comes_mono {a1 : Int32} {a2 : Int32} {Q : Int32 → Mm → Prop} {M : Mm} {R : Int32 → Mm → Prop} (hQ : ∀ z0 z1, Q z0 z1 → R z0 z1) (h : wX3_comes a1 a2 Q M) : wX3_comes a1 a2 R M := by
  unfold wX3_comes at h ⊢
  repeat (first | with_reducible exact h | with_reducible exact hQ _ _ h | with_reducible refine And.imp (fun h => ?_) (fun h => ?_) h | with_reducible refine wX6_set_mono (fun _ h => ?_) h | (intro c; replace h := h c))
theorem wX3_has_mono {a1 : Int32} {Q : Int32 → Mm → Prop} {M : Mm} {R : Int32 → Mm → Prop} (hQ : ∀ z0 z1, Q z0 z1 → R z0 z1) (h : wX3_has a1 Q M) : wX3_has a1 R M := by
  unfold wX3_has at h ⊢
  repeat (first | with_reducible exact h | with_reducible exact hQ _ _ h | with_reducible refine And.imp (fun h => ?_) (fun h => ?_) h | with_reducible refine wX6_isWithin_mono (fun _ _ h => ?_) h | (intro c; replace h := h c))
theorem bX3_placeOf_2_mono {a1 : Int32} {Q : Int32 → Mm → Prop} {J_2 : Int32 → Mm → Prop} {x2_2 : Int32} {m2 : Mm} {R : Int32 → Mm → Prop} (hQ : ∀ z0 z1, Q z0 z1 → R z0 z1) (h : bX3_placeOf_2 a1 Q J_2 x2_2 m2) : bX3_placeOf_2 a1 R J_2 x2_2 m2 := by
  unfold bX3_placeOf_2 at h ⊢
  repeat (first | with_reducible exact h | with_reducible exact hQ _ _ h | with_reducible refine And.imp (fun h => ?_) (fun h => ?_) h | with_reducible refine wX6_at_mono (fun _ _ h => ?_) h | (intro c; replace h := h c))
theorem lX3_placeOf_2_mono {a1 : Int32} {Q : Int32 → Mm → Prop} {x2_2 : Int32} {m2 : Mm} {R : Int32 → Mm → Prop} (hQ : ∀ z0 z1, Q z0 z1 → R z0 z1) (h : lX3_placeOf_2 a1 Q x2_2 m2) : lX3_placeOf_2 a1 R x2_2 m2 := fun I hI => h I (fun J hJ _ _ hb => hI J hJ _ _ (bX3_placeOf_2_mono hQ hb))
theorem wX3_placeOf_mono {a1 : Int32} {Q : Int32 → Mm → Prop} {M : Mm} {R : Int32 → Mm → Prop} (hQ : ∀ z0 z1, Q z0 z1 → R z0 z1) (h : wX3_placeOf a1 Q M) : wX3_placeOf a1 R M := by
  unfold wX3_placeOf at h ⊢
  repeat (first | with_reducible exact h | with_reducible exact hQ _ _ h | with_reducible refine And.imp (fun h => ?_) (fun h => ?_) h | with_reducible refine lX3_placeOf_2_mono (fun _ _ h => ?_) h | (intro c; replace h := h c))
theorem wX3_envies_mono {a1 : Int32} {a2 : Int32} {Q : Int32 → Mm → Prop} {M : Mm} {R : Int32 → Mm → Prop} (hQ : ∀ z0 z1, Q z0 z1 → R z0 z1) (h : wX3_envies a1 a2 Q M) : wX3_envies a1 a2 R M := by
  unfold wX3_envies at h ⊢
  repeat (first | with_reducible exact h | with_reducible exact hQ _ _ h | with_reducible refine And.imp (fun h => ?_) (fun h => ?_) h | with_reducible refine wX6_at_mono (fun _ _ h => ?_) h | (intro c; replace h := h c))
theorem bX3_envious_16_mono {x2_4 : Int32} {Q : Int32 → Mm → Prop} {J_4 : Int32 → Int32 → Mm → Prop} {J_16 : Int32 → Int32 → Mm → Prop} {x1_16 : Int32} {x3_16 : Int32} {m16 : Mm} {R : Int32 → Mm → Prop} (hQ : ∀ z0 z1, Q z0 z1 → R z0 z1) (h : bX3_envious_16 x2_4 Q J_4 J_16 x1_16 x3_16 m16) : bX3_envious_16 x2_4 R J_4 J_16 x1_16 x3_16 m16 := by
  unfold bX3_envious_16 at h ⊢
  repeat (first | with_reducible exact h | with_reducible exact hQ _ _ h | with_reducible refine And.imp (fun h => ?_) (fun h => ?_) h | with_reducible refine wX3_envies_mono (fun _ _ h => ?_) h | (intro c; replace h := h c))
theorem lX3_envious_16_mono {x2_4 : Int32} {Q : Int32 → Mm → Prop} {J_4 : Int32 → Int32 → Mm → Prop} {x1_16 : Int32} {x3_16 : Int32} {m16 : Mm} {R : Int32 → Mm → Prop} (hQ : ∀ z0 z1, Q z0 z1 → R z0 z1) (h : lX3_envious_16 x2_4 Q J_4 x1_16 x3_16 m16) : lX3_envious_16 x2_4 R J_4 x1_16 x3_16 m16 := fun I hI => h I (fun J hJ _ _ _ hb => hI J hJ _ _ _ (bX3_envious_16_mono hQ hb))
theorem bX3_envious_4_mono {Q : Int32 → Mm → Prop} {J_4 : Int32 → Int32 → Mm → Prop} {x1_4 : Int32} {x2_4 : Int32} {m4 : Mm} {R : Int32 → Mm → Prop} (hQ : ∀ z0 z1, Q z0 z1 → R z0 z1) (h : bX3_envious_4 Q J_4 x1_4 x2_4 m4) : bX3_envious_4 R J_4 x1_4 x2_4 m4 := by
  unfold bX3_envious_4 at h ⊢
  repeat (first | with_reducible exact h | with_reducible exact hQ _ _ h | with_reducible refine And.imp (fun h => ?_) (fun h => ?_) h | with_reducible refine lX3_envious_16_mono (fun _ _ h => ?_) h | (intro c; replace h := h c))
theorem lX3_envious_4_mono {Q : Int32 → Mm → Prop} {x1_4 : Int32} {x2_4 : Int32} {m4 : Mm} {R : Int32 → Mm → Prop} (hQ : ∀ z0 z1, Q z0 z1 → R z0 z1) (h : lX3_envious_4 Q x1_4 x2_4 m4) : lX3_envious_4 R x1_4 x2_4 m4 := fun I hI => h I (fun J hJ _ _ _ hb => hI J hJ _ _ _ (bX3_envious_4_mono hQ hb))
theorem wX3_envious_mono {Q : Int32 → Mm → Prop} {M : Mm} {R : Int32 → Mm → Prop} (hQ : ∀ z0 z1, Q z0 z1 → R z0 z1) (h : wX3_envious Q M) : wX3_envious R M := by
  unfold wX3_envious at h ⊢
  repeat (first | with_reducible exact h | with_reducible exact hQ _ _ h | with_reducible refine And.imp (fun h => ?_) (fun h => ?_) h | with_reducible refine lX3_envious_4_mono (fun _ _ h => ?_) h | (intro c; replace h := h c))
theorem bX4_renew_21_mono {a1 : Int32} {a3 : Int32} {Q : Mm → Prop} {J_21 : Int32 → Mm → Prop} {x4_21 : Int32} {m21 : Mm} {R : Mm → Prop} (hQ : ∀ z0, Q z0 → R z0) (h : bX4_renew_21 a1 a3 Q J_21 x4_21 m21) : bX4_renew_21 a1 a3 R J_21 x4_21 m21 := by
  unfold bX4_renew_21 at h ⊢
  repeat (first | with_reducible exact h | with_reducible exact hQ _ h | with_reducible refine And.imp (fun h => ?_) (fun h => ?_) h | with_reducible refine wX4_indexOf_mono (fun _ _ h => ?_) h | with_reducible refine wX6_set_mono (fun _ h => ?_) h | (intro c; replace h := h c))
theorem lX4_renew_21_mono {a1 : Int32} {a3 : Int32} {Q : Mm → Prop} {x4_21 : Int32} {m21 : Mm} {R : Mm → Prop} (hQ : ∀ z0, Q z0 → R z0) (h : lX4_renew_21 a1 a3 Q x4_21 m21) : lX4_renew_21 a1 a3 R x4_21 m21 := fun I hI => h I (fun J hJ _ _ hb => hI J hJ _ _ (bX4_renew_21_mono hQ hb))
theorem wX4_renew_mono {a1 : Int32} {a2 : Int32} {a3 : Int32} {Q : Mm → Prop} {M : Mm} {R : Mm → Prop} (hQ : ∀ z0, Q z0 → R z0) (h : wX4_renew a1 a2 a3 Q M) : wX4_renew a1 a2 a3 R M := by
  unfold wX4_renew at h ⊢
  repeat (first | with_reducible exact h | with_reducible exact hQ _ h | with_reducible refine And.imp (fun h => ?_) (fun h => ?_) h | with_reducible refine wX6_set_mono (fun _ h => ?_) h | with_reducible refine lX4_renew_21_mono (fun _ h => ?_) h | (intro c; replace h := h c))
theorem wX4_forget_mono {a1 : Int32} {Q : Mm → Prop} {M : Mm} {R : Mm → Prop} (hQ : ∀ z0, Q z0 → R z0) (h : wX4_forget a1 Q M) : wX4_forget a1 R M := by
  unfold wX4_forget at h ⊢
  repeat (first | with_reducible exact h | with_reducible exact hQ _ h | with_reducible refine And.imp (fun h => ?_) (fun h => ?_) h | with_reducible refine wX6_set_mono (fun _ h => ?_) h | (intro c; replace h := h c))
theorem wX4_write_mono {a1 : Int32} {a2 : Int32} {a3 : Int32} {Q : Mm → Prop} {M : Mm} {R : Mm → Prop} (hQ : ∀ z0, Q z0 → R z0) (h : wX4_write a1 a2 a3 Q M) : wX4_write a1 a2 a3 R M := by
  unfold wX4_write at h ⊢
  repeat (first | with_reducible exact h | with_reducible exact hQ _ h | with_reducible refine And.imp (fun h => ?_) (fun h => ?_) h | with_reducible refine wX6_at_mono (fun _ _ h => ?_) h | with_reducible refine wX4_indexOf_mono (fun _ _ h => ?_) h | with_reducible refine wX6_set_mono (fun _ h => ?_) h | (intro c; replace h := h c))
theorem wX4_read_mono {a1 : Int32} {a2 : Int32} {Q : Int32 → Mm → Prop} {M : Mm} {R : Int32 → Mm → Prop} (hQ : ∀ z0 z1, Q z0 z1 → R z0 z1) (h : wX4_read a1 a2 Q M) : wX4_read a1 a2 R M := by
  unfold wX4_read at h ⊢
  repeat (first | with_reducible exact h | with_reducible exact hQ _ _ h | with_reducible refine And.imp (fun h => ?_) (fun h => ?_) h | with_reducible refine wX4_indexOf_mono (fun _ _ h => ?_) h | with_reducible refine wX6_at_mono (fun _ _ h => ?_) h | (intro c; replace h := h c))
theorem bX3_done_4_mono {Q : Int32 → Mm → Prop} {J_4 : Int32 → Int32 → Mm → Prop} {x1_4 : Int32} {x2_4 : Int32} {m4 : Mm} {R : Int32 → Mm → Prop} (hQ : ∀ z0 z1, Q z0 z1 → R z0 z1) (h : bX3_done_4 Q J_4 x1_4 x2_4 m4) : bX3_done_4 R J_4 x1_4 x2_4 m4 := by
  unfold bX3_done_4 at h ⊢
  repeat (first | with_reducible exact h | with_reducible exact hQ _ _ h | with_reducible refine And.imp (fun h => ?_) (fun h => ?_) h | with_reducible refine wX6_at_mono (fun _ _ h => ?_) h | (intro c; replace h := h c))
theorem lX3_done_4_mono {Q : Int32 → Mm → Prop} {x1_4 : Int32} {x2_4 : Int32} {m4 : Mm} {R : Int32 → Mm → Prop} (hQ : ∀ z0 z1, Q z0 z1 → R z0 z1) (h : lX3_done_4 Q x1_4 x2_4 m4) : lX3_done_4 R x1_4 x2_4 m4 := fun I hI => h I (fun J hJ _ _ _ hb => hI J hJ _ _ _ (bX3_done_4_mono hQ hb))
theorem wX3_done_mono {Q : Int32 → Mm → Prop} {M : Mm} {R : Int32 → Mm → Prop} (hQ : ∀ z0 z1, Q z0 z1 → R z0 z1) (h : wX3_done Q M) : wX3_done R M := by
  unfold wX3_done at h ⊢
  repeat (first | with_reducible exact h | with_reducible exact hQ _ _ h | with_reducible refine And.imp (fun h => ?_) (fun h => ?_) h | with_reducible refine lX3_done_4_mono (fun _ _ h => ?_) h | (intro c; replace h := h c))
theorem wX0_forgets_mono {Q : Mm → Prop} {M : Mm} {R : Mm → Prop} (hQ : ∀ z0, Q z0 → R z0) (h : wX0_forgets Q M) : wX0_forgets R M := by
  unfold wX0_forgets at h ⊢
  repeat (first | with_reducible exact h | with_reducible exact hQ _ h | with_reducible refine And.imp (fun h => ?_) (fun h => ?_) h | (intro c; replace h := h c))
theorem bX0_rowBecomes_10_mono {Q : Mm → Prop} {J_10 : Int32 → Int32 → Mm → Prop} {x3_10 : Int32} {x4_10 : Int32} {m10 : Mm} {R : Mm → Prop} (hQ : ∀ z0, Q z0 → R z0) (h : bX0_rowBecomes_10 Q J_10 x3_10 x4_10 m10) : bX0_rowBecomes_10 R J_10 x3_10 x4_10 m10 := by
  unfold bX0_rowBecomes_10 at h ⊢
  repeat (first | with_reducible exact h | with_reducible exact hQ _ h | with_reducible refine And.imp (fun h => ?_) (fun h => ?_) h | with_reducible refine wX6_set_mono (fun _ h => ?_) h | (intro c; replace h := h c))
theorem lX0_rowBecomes_10_mono {Q : Mm → Prop} {x3_10 : Int32} {x4_10 : Int32} {m10 : Mm} {R : Mm → Prop} (hQ : ∀ z0, Q z0 → R z0) (h : lX0_rowBecomes_10 Q x3_10 x4_10 m10) : lX0_rowBecomes_10 R x3_10 x4_10 m10 := fun I hI => h I (fun J hJ _ _ _ hb => hI J hJ _ _ _ (bX0_rowBecomes_10_mono hQ hb))
theorem wX0_rowBecomes_mono {a2 : Int32} {Q : Mm → Prop} {M : Mm} {R : Mm → Prop} (hQ : ∀ z0, Q z0 → R z0) (h : wX0_rowBecomes a2 Q M) : wX0_rowBecomes a2 R M := by
  unfold wX0_rowBecomes at h ⊢
  repeat (first | with_reducible exact h | with_reducible exact hQ _ h | with_reducible refine And.imp (fun h => ?_) (fun h => ?_) h | with_reducible refine lX0_rowBecomes_10_mono (fun _ h => ?_) h | (intro c; replace h := h c))
theorem wX1_grows_mono {o : Nat} {a1 : Int32} {Q : Int64 → Mm → Prop} {M : Mm} {R : Int64 → Mm → Prop} (hQ : ∀ z0 z1, Q z0 z1 → R z0 z1) (h : wX1_grows o a1 Q M) : wX1_grows o a1 R M := by
  unfold wX1_grows at h ⊢
  repeat (first | with_reducible exact h | with_reducible exact hQ _ _ h | with_reducible refine And.imp (fun h => ?_) (fun h => ?_) h | with_reducible refine wX6_at_mono (fun _ _ h => ?_) h | (intro c; replace h := h c))
theorem wX1_shrinks_mono {o : Nat} {a1 : Int32} {Q : Int64 → Mm → Prop} {M : Mm} {R : Int64 → Mm → Prop} (hQ : ∀ z0 z1, Q z0 z1 → R z0 z1) (h : wX1_shrinks o a1 Q M) : wX1_shrinks o a1 R M := by
  unfold wX1_shrinks at h ⊢
  repeat (first | with_reducible exact h | with_reducible exact hQ _ _ h | with_reducible refine And.imp (fun h => ?_) (fun h => ?_) h | with_reducible refine wX6_at_mono (fun _ _ h => ?_) h | (intro c; replace h := h c))
theorem bX1_weigh_126_mono {o : Nat} {Q : Mm → Prop} {J_2 : Int32 → Mm → Prop} {J_34 : Int32 → Mm → Prop} {J_126 : Int32 → Mm → Prop} {x1_126 : Int32} {m126 : Mm} {R : Mm → Prop} (hQ : ∀ z0, Q z0 → R z0) (h : bX1_weigh_126 o Q J_2 J_34 J_126 x1_126 m126) : bX1_weigh_126 o R J_2 J_34 J_126 x1_126 m126 := by
  unfold bX1_weigh_126 at h ⊢
  repeat (first | with_reducible exact h | with_reducible exact hQ _ h | with_reducible refine And.imp (fun h => ?_) (fun h => ?_) h | with_reducible refine wX6_at__mono (fun _ _ h => ?_) h | (intro c; replace h := h c))
theorem lX1_weigh_126_mono {o : Nat} {Q : Mm → Prop} {J_2 : Int32 → Mm → Prop} {J_34 : Int32 → Mm → Prop} {x1_126 : Int32} {m126 : Mm} {R : Mm → Prop} (hQ : ∀ z0, Q z0 → R z0) (h : lX1_weigh_126 o Q J_2 J_34 x1_126 m126) : lX1_weigh_126 o R J_2 J_34 x1_126 m126 := fun I hI => h I (fun J hJ _ _ hb => hI J hJ _ _ (bX1_weigh_126_mono hQ hb))
theorem bX1_weigh_80_mono {o : Nat} {x1_34 : Int32} {Q : Mm → Prop} {J_2 : Int32 → Mm → Prop} {J_34 : Int32 → Mm → Prop} {J_80 : Int32 → Mm → Prop} {x2_80 : Int32} {m80 : Mm} {R : Mm → Prop} (hQ : ∀ z0, Q z0 → R z0) (h : bX1_weigh_80 o x1_34 Q J_2 J_34 J_80 x2_80 m80) : bX1_weigh_80 o x1_34 R J_2 J_34 J_80 x2_80 m80 := by
  unfold bX1_weigh_80 at h ⊢
  repeat (first | with_reducible exact h | with_reducible exact hQ _ h | with_reducible refine And.imp (fun h => ?_) (fun h => ?_) h | with_reducible refine wX6_at__mono (fun _ _ h => ?_) h | with_reducible refine wX1_shrinks_mono (fun _ _ h => ?_) h | with_reducible refine wX6_set__mono (fun _ h => ?_) h | (intro c; replace h := h c))
theorem lX1_weigh_80_mono {o : Nat} {x1_34 : Int32} {Q : Mm → Prop} {J_2 : Int32 → Mm → Prop} {J_34 : Int32 → Mm → Prop} {x2_80 : Int32} {m80 : Mm} {R : Mm → Prop} (hQ : ∀ z0, Q z0 → R z0) (h : lX1_weigh_80 o x1_34 Q J_2 J_34 x2_80 m80) : lX1_weigh_80 o x1_34 R J_2 J_34 x2_80 m80 := fun I hI => h I (fun J hJ _ _ hb => hI J hJ _ _ (bX1_weigh_80_mono hQ hb))
theorem bX1_weigh_34_mono {o : Nat} {Q : Mm → Prop} {J_2 : Int32 → Mm → Prop} {J_34 : Int32 → Mm → Prop} {x1_34 : Int32} {m34 : Mm} {R : Mm → Prop} (hQ : ∀ z0, Q z0 → R z0) (h : bX1_weigh_34 o Q J_2 J_34 x1_34 m34) : bX1_weigh_34 o R J_2 J_34 x1_34 m34 := by
  unfold bX1_weigh_34 at h ⊢
  repeat (first | with_reducible exact h | with_reducible exact hQ _ h | with_reducible refine And.imp (fun h => ?_) (fun h => ?_) h | with_reducible refine lX1_weigh_126_mono (fun _ h => ?_) h | with_reducible refine wX1_grows_mono (fun _ _ h => ?_) h | with_reducible refine wX6_at__mono (fun _ _ h => ?_) h | with_reducible refine wX6_set__mono (fun _ h => ?_) h | with_reducible refine lX1_weigh_80_mono (fun _ h => ?_) h | (intro c; replace h := h c))
theorem lX1_weigh_34_mono {o : Nat} {Q : Mm → Prop} {J_2 : Int32 → Mm → Prop} {x1_34 : Int32} {m34 : Mm} {R : Mm → Prop} (hQ : ∀ z0, Q z0 → R z0) (h : lX1_weigh_34 o Q J_2 x1_34 m34) : lX1_weigh_34 o R J_2 x1_34 m34 := fun I hI => h I (fun J hJ _ _ hb => hI J hJ _ _ (bX1_weigh_34_mono hQ hb))
theorem bX1_weigh_2_mono {o : Nat} {Q : Mm → Prop} {J_2 : Int32 → Mm → Prop} {x1_2 : Int32} {m2 : Mm} {R : Mm → Prop} (hQ : ∀ z0, Q z0 → R z0) (h : bX1_weigh_2 o Q J_2 x1_2 m2) : bX1_weigh_2 o R J_2 x1_2 m2 := by
  unfold bX1_weigh_2 at h ⊢
  repeat (first | with_reducible exact h | with_reducible exact hQ _ h | with_reducible refine And.imp (fun h => ?_) (fun h => ?_) h | with_reducible refine wX6_set__mono (fun _ h => ?_) h | with_reducible refine lX1_weigh_34_mono (fun _ h => ?_) h | (intro c; replace h := h c))
theorem lX1_weigh_2_mono {o : Nat} {Q : Mm → Prop} {x1_2 : Int32} {m2 : Mm} {R : Mm → Prop} (hQ : ∀ z0, Q z0 → R z0) (h : lX1_weigh_2 o Q x1_2 m2) : lX1_weigh_2 o R x1_2 m2 := fun I hI => h I (fun J hJ _ _ hb => hI J hJ _ _ (bX1_weigh_2_mono hQ hb))
theorem wX1_weigh_mono {o : Nat} {Q : Mm → Prop} {M : Mm} {R : Mm → Prop} (hQ : ∀ z0, Q z0 → R z0) (h : wX1_weigh o Q M) : wX1_weigh o R M := by
  unfold wX1_weigh at h ⊢
  repeat (first | with_reducible exact h | with_reducible exact hQ _ h | with_reducible refine And.imp (fun h => ?_) (fun h => ?_) h | with_reducible refine lX1_weigh_2_mono (fun _ h => ?_) h | (intro c; replace h := h c))
theorem bX1_comeByBars_16_mono {o : Nat} {k2_ : Nat} {Q : Mm → Prop} {J_16 : Int32 → Mm → Prop} {x3_16 : Int32} {m16 : Mm} {R : Mm → Prop} (hQ : ∀ z0, Q z0 → R z0) (h : bX1_comeByBars_16 o k2_ Q J_16 x3_16 m16) : bX1_comeByBars_16 o k2_ R J_16 x3_16 m16 := by
  unfold bX1_comeByBars_16 at h ⊢
  repeat (first | with_reducible exact h | with_reducible exact hQ _ h | with_reducible refine And.imp (fun h => ?_) (fun h => ?_) h | with_reducible refine wX1_weigh_mono (fun _ h => ?_) h | with_reducible refine wX2_joining_mono (fun _ _ h => ?_) h | with_reducible refine wX6_set_mono (fun _ h => ?_) h | (intro c; replace h := h c))
theorem lX1_comeByBars_16_mono {o : Nat} {k2_ : Nat} {Q : Mm → Prop} {x3_16 : Int32} {m16 : Mm} {R : Mm → Prop} (hQ : ∀ z0, Q z0 → R z0) (h : lX1_comeByBars_16 o k2_ Q x3_16 m16) : lX1_comeByBars_16 o k2_ R x3_16 m16 := fun I hI => h I (fun J hJ _ _ hb => hI J hJ _ _ (bX1_comeByBars_16_mono hQ hb))
theorem wX1_comeByBars_mono {o : Nat} {k2_ : Nat} {Q : Mm → Prop} {M : Mm} {R : Mm → Prop} (hQ : ∀ z0, Q z0 → R z0) (h : wX1_comeByBars o k2_ Q M) : wX1_comeByBars o k2_ R M := by
  unfold wX1_comeByBars at h ⊢
  repeat (first | with_reducible exact h | with_reducible exact hQ _ h | with_reducible refine And.imp (fun h => ?_) (fun h => ?_) h | with_reducible refine lX1_comeByBars_16_mono (fun _ h => ?_) h | (intro c; replace h := h c))
theorem wX1_found_mono {o : Nat} {a1 : Int32} {Q : Int64 → Mm → Prop} {M : Mm} {R : Int64 → Mm → Prop} (hQ : ∀ z0 z1, Q z0 z1 → R z0 z1) (h : wX1_found o a1 Q M) : wX1_found o a1 R M := by
  unfold wX1_found at h ⊢
  repeat (first | with_reducible exact h | with_reducible exact hQ _ _ h | with_reducible refine And.imp (fun h => ?_) (fun h => ?_) h | with_reducible refine wX6_at__mono (fun _ _ h => ?_) h | (intro c; replace h := h c))
theorem bX1_foundBelow_5_mono {o : Nat} {a1 : Int32} {Q : Int64 → Mm → Prop} {J_5 : Int64 → Int32 → Mm → Prop} {x2_5 : Int64} {x4_5 : Int32} {m5 : Mm} {R : Int64 → Mm → Prop} (hQ : ∀ z0 z1, Q z0 z1 → R z0 z1) (h : bX1_foundBelow_5 o a1 Q J_5 x2_5 x4_5 m5) : bX1_foundBelow_5 o a1 R J_5 x2_5 x4_5 m5 := by
  unfold bX1_foundBelow_5 at h ⊢
  repeat (first | with_reducible exact h | with_reducible exact hQ _ _ h | with_reducible refine And.imp (fun h => ?_) (fun h => ?_) h | with_reducible refine wX1_found_mono (fun _ _ h => ?_) h | (intro c; replace h := h c))
theorem lX1_foundBelow_5_mono {o : Nat} {a1 : Int32} {Q : Int64 → Mm → Prop} {x2_5 : Int64} {x4_5 : Int32} {m5 : Mm} {R : Int64 → Mm → Prop} (hQ : ∀ z0 z1, Q z0 z1 → R z0 z1) (h : lX1_foundBelow_5 o a1 Q x2_5 x4_5 m5) : lX1_foundBelow_5 o a1 R x2_5 x4_5 m5 := fun I hI => h I (fun J hJ _ _ _ hb => hI J hJ _ _ _ (bX1_foundBelow_5_mono hQ hb))
theorem wX1_foundBelow_mono {o : Nat} {a1 : Int32} {Q : Int64 → Mm → Prop} {M : Mm} {R : Int64 → Mm → Prop} (hQ : ∀ z0 z1, Q z0 z1 → R z0 z1) (h : wX1_foundBelow o a1 Q M) : wX1_foundBelow o a1 R M := by
  unfold wX1_foundBelow at h ⊢
  repeat (first | with_reducible exact h | with_reducible exact hQ _ _ h | with_reducible refine And.imp (fun h => ?_) (fun h => ?_) h | with_reducible refine lX1_foundBelow_5_mono (fun _ _ h => ?_) h | (intro c; replace h := h c))
theorem bX1_lengthsByWeight_4_mono {o : Nat} {Q : Int64 → Mm → Prop} {J_4 : Int64 → Int32 → Mm → Prop} {x1_4 : Int64} {x3_4 : Int32} {m4 : Mm} {R : Int64 → Mm → Prop} (hQ : ∀ z0 z1, Q z0 z1 → R z0 z1) (h : bX1_lengthsByWeight_4 o Q J_4 x1_4 x3_4 m4) : bX1_lengthsByWeight_4 o R J_4 x1_4 x3_4 m4 := by
  unfold bX1_lengthsByWeight_4 at h ⊢
  repeat (first | with_reducible exact h | with_reducible exact hQ _ _ h | with_reducible refine And.imp (fun h => ?_) (fun h => ?_) h | with_reducible refine wX6_at__mono (fun _ _ h => ?_) h | (intro c; replace h := h c))
theorem lX1_lengthsByWeight_4_mono {o : Nat} {Q : Int64 → Mm → Prop} {x1_4 : Int64} {x3_4 : Int32} {m4 : Mm} {R : Int64 → Mm → Prop} (hQ : ∀ z0 z1, Q z0 z1 → R z0 z1) (h : lX1_lengthsByWeight_4 o Q x1_4 x3_4 m4) : lX1_lengthsByWeight_4 o R x1_4 x3_4 m4 := fun I hI => h I (fun J hJ _ _ _ hb => hI J hJ _ _ _ (bX1_lengthsByWeight_4_mono hQ hb))
theorem wX1_lengthsByWeight_mono {o : Nat} {Q : Int64 → Mm → Prop} {M : Mm} {R : Int64 → Mm → Prop} (hQ : ∀ z0 z1, Q z0 z1 → R z0 z1) (h : wX1_lengthsByWeight o Q M) : wX1_lengthsByWeight o R M := by
  unfold wX1_lengthsByWeight at h ⊢
  repeat (first | with_reducible exact h | with_reducible exact hQ _ _ h | with_reducible refine And.imp (fun h => ?_) (fun h => ?_) h | with_reducible refine lX1_lengthsByWeight_4_mono (fun _ _ h => ?_) h | (intro c; replace h := h c))
theorem bX0_reckon_14_mono {k2_ : Nat} {Q : Mm → Prop} {J_14 : Int64 → Int32 → Mm → Prop} {x3_14 : Int64} {x5_14 : Int32} {m14 : Mm} {R : Mm → Prop} (hQ : ∀ z0, Q z0 → R z0) (h : bX0_reckon_14 k2_ Q J_14 x3_14 x5_14 m14) : bX0_reckon_14 k2_ R J_14 x3_14 x5_14 m14 := by
  unfold bX0_reckon_14 at h ⊢
  repeat (first | with_reducible exact h | with_reducible exact hQ _ h | with_reducible refine And.imp (fun h => ?_) (fun h => ?_) h | with_reducible refine wX1_lengthsByWeight_mono (fun _ _ h => ?_) h | with_reducible refine wX6_at_mono (fun _ _ h => ?_) h | with_reducible refine wX1_foundBelow_mono (fun _ _ h => ?_) h | (intro c; replace h := h c))
theorem lX0_reckon_14_mono {k2_ : Nat} {Q : Mm → Prop} {x3_14 : Int64} {x5_14 : Int32} {m14 : Mm} {R : Mm → Prop} (hQ : ∀ z0, Q z0 → R z0) (h : lX0_reckon_14 k2_ Q x3_14 x5_14 m14) : lX0_reckon_14 k2_ R x3_14 x5_14 m14 := fun I hI => h I (fun J hJ _ _ _ hb => hI J hJ _ _ _ (bX0_reckon_14_mono hQ hb))
theorem wX0_reckon_mono {k2_ : Nat} {Q : Mm → Prop} {M : Mm} {R : Mm → Prop} (hQ : ∀ z0, Q z0 → R z0) (h : wX0_reckon k2_ Q M) : wX0_reckon k2_ R M := by
  unfold wX0_reckon at h ⊢
  repeat (first | with_reducible exact h | with_reducible exact hQ _ h | with_reducible refine And.imp (fun h => ?_) (fun h => ?_) h | with_reducible refine wX1_comeByBars_mono (fun _ h => ?_) h | with_reducible refine lX0_reckon_14_mono (fun _ h => ?_) h | (intro c; replace h := h c))
theorem bX0_knowBest_84_mono {r_2 : Int32} {x7_25 : Int32} {y2_84 : Int64} {y4_84 : Int64} {Q : Mm → Prop} {J_25 : Int64 → Int64 → Int32 → Mm → Prop} {J_84 : Int32 → Mm → Prop} {x8_84 : Int32} {m84 : Mm} {R : Mm → Prop} (hQ : ∀ z0, Q z0 → R z0) (h : bX0_knowBest_84 r_2 x7_25 y2_84 y4_84 Q J_25 J_84 x8_84 m84) : bX0_knowBest_84 r_2 x7_25 y2_84 y4_84 R J_25 J_84 x8_84 m84 := by
  unfold bX0_knowBest_84 at h ⊢
  repeat (first | with_reducible exact h | with_reducible exact hQ _ h | with_reducible refine And.imp (fun h => ?_) (fun h => ?_) h | with_reducible refine wX6_at_mono (fun _ _ h => ?_) h | with_reducible refine wX6_set_mono (fun _ h => ?_) h | (intro c; replace h := h c))
theorem lX0_knowBest_84_mono {r_2 : Int32} {x7_25 : Int32} {y2_84 : Int64} {y4_84 : Int64} {Q : Mm → Prop} {J_25 : Int64 → Int64 → Int32 → Mm → Prop} {x8_84 : Int32} {m84 : Mm} {R : Mm → Prop} (hQ : ∀ z0, Q z0 → R z0) (h : lX0_knowBest_84 r_2 x7_25 y2_84 y4_84 Q J_25 x8_84 m84) : lX0_knowBest_84 r_2 x7_25 y2_84 y4_84 R J_25 x8_84 m84 := fun I hI => h I (fun J hJ _ _ hb => hI J hJ _ _ (bX0_knowBest_84_mono hQ hb))
theorem bX0_knowBest_25_mono {r_2 : Int32} {Q : Mm → Prop} {J_25 : Int64 → Int64 → Int32 → Mm → Prop} {x2_25 : Int64} {x4_25 : Int64} {x7_25 : Int32} {m25 : Mm} {R : Mm → Prop} (hQ : ∀ z0, Q z0 → R z0) (h : bX0_knowBest_25 r_2 Q J_25 x2_25 x4_25 x7_25 m25) : bX0_knowBest_25 r_2 R J_25 x2_25 x4_25 x7_25 m25 := by
  unfold bX0_knowBest_25 at h ⊢
  repeat (first | with_reducible exact h | with_reducible exact hQ _ h | with_reducible refine And.imp (fun h => ?_) (fun h => ?_) h | with_reducible refine wX0_rowBecomes_mono (fun _ h => ?_) h | with_reducible refine wX0_reckon_mono (fun _ h => ?_) h | with_reducible refine lX0_knowBest_84_mono (fun _ h => ?_) h | with_reducible refine wX6_compareShares_mono (fun _ _ h => ?_) h | (intro c; replace h := h c))
theorem lX0_knowBest_25_mono {r_2 : Int32} {Q : Mm → Prop} {x2_25 : Int64} {x4_25 : Int64} {x7_25 : Int32} {m25 : Mm} {R : Mm → Prop} (hQ : ∀ z0, Q z0 → R z0) (h : lX0_knowBest_25 r_2 Q x2_25 x4_25 x7_25 m25) : lX0_knowBest_25 r_2 R x2_25 x4_25 x7_25 m25 := fun I hI => h I (fun J hJ _ _ _ _ hb => hI J hJ _ _ _ _ (bX0_knowBest_25_mono hQ hb))
theorem wX0_knowBest_mono {Q : Mm → Prop} {M : Mm} {R : Mm → Prop} (hQ : ∀ z0, Q z0 → R z0) (h : wX0_knowBest Q M) : wX0_knowBest R M := by
  unfold wX0_knowBest at h ⊢
  repeat (first | with_reducible exact h | with_reducible exact hQ _ h | with_reducible refine And.imp (fun h => ?_) (fun h => ?_) h | with_reducible refine wX6_rowsOf_mono (fun _ _ h => ?_) h | with_reducible refine lX0_knowBest_25_mono (fun _ h => ?_) h | (intro c; replace h := h c))
theorem bX1_tillLess_8_mono {o : Nat} {a1 : Int32} {a2 : Int32} {Q : Int64 → Mm → Prop} {J_8 : Int64 → Int64 → Int32 → Mm → Prop} {x3_8 : Int64} {x5_8 : Int64} {x7_8 : Int32} {m8 : Mm} {R : Int64 → Mm → Prop} (hQ : ∀ z0 z1, Q z0 z1 → R z0 z1) (h : bX1_tillLess_8 o a1 a2 Q J_8 x3_8 x5_8 x7_8 m8) : bX1_tillLess_8 o a1 a2 R J_8 x3_8 x5_8 x7_8 m8 := by
  unfold bX1_tillLess_8 at h ⊢
  repeat (first | with_reducible exact h | with_reducible exact hQ _ _ h | with_reducible refine And.imp (fun h => ?_) (fun h => ?_) h | with_reducible refine wX6_share_mono (fun _ _ h => ?_) h | with_reducible refine wX1_grows_mono (fun _ _ h => ?_) h | with_reducible refine wX1_shrinks_mono (fun _ _ h => ?_) h | (intro c; replace h := h c))
theorem lX1_tillLess_8_mono {o : Nat} {a1 : Int32} {a2 : Int32} {Q : Int64 → Mm → Prop} {x3_8 : Int64} {x5_8 : Int64} {x7_8 : Int32} {m8 : Mm} {R : Int64 → Mm → Prop} (hQ : ∀ z0 z1, Q z0 z1 → R z0 z1) (h : lX1_tillLess_8 o a1 a2 Q x3_8 x5_8 x7_8 m8) : lX1_tillLess_8 o a1 a2 R x3_8 x5_8 x7_8 m8 := fun I hI => h I (fun J hJ _ _ _ _ hb => hI J hJ _ _ _ _ (bX1_tillLess_8_mono hQ hb))
theorem wX1_tillLess_mono {o : Nat} {a1 : Int32} {a2 : Int32} {Q : Int64 → Mm → Prop} {M : Mm} {R : Int64 → Mm → Prop} (hQ : ∀ z0 z1, Q z0 z1 → R z0 z1) (h : wX1_tillLess o a1 a2 Q M) : wX1_tillLess o a1 a2 R M := by
  unfold wX1_tillLess at h ⊢
  repeat (first | with_reducible exact h | with_reducible exact hQ _ _ h | with_reducible refine And.imp (fun h => ?_) (fun h => ?_) h | with_reducible refine lX1_tillLess_8_mono (fun _ _ h => ?_) h | (intro c; replace h := h c))
theorem bX1_goOn_105_mono {o : Nat} {Q : Mm → Prop} {J_2 : Int32 → Mm → Prop} {J_105 : Int32 → Mm → Prop} {x1_105 : Int32} {m105 : Mm} {R : Mm → Prop} (hQ : ∀ z0, Q z0 → R z0) (h : bX1_goOn_105 o Q J_2 J_105 x1_105 m105) : bX1_goOn_105 o R J_2 J_105 x1_105 m105 := by
  unfold bX1_goOn_105 at h ⊢
  repeat (first | with_reducible exact h | with_reducible exact hQ _ h | with_reducible refine And.imp (fun h => ?_) (fun h => ?_) h | with_reducible refine wX6_at__mono (fun _ _ h => ?_) h | with_reducible refine wX6_set__mono (fun _ h => ?_) h | (intro c; replace h := h c))
theorem lX1_goOn_105_mono {o : Nat} {Q : Mm → Prop} {J_2 : Int32 → Mm → Prop} {x1_105 : Int32} {m105 : Mm} {R : Mm → Prop} (hQ : ∀ z0, Q z0 → R z0) (h : lX1_goOn_105 o Q J_2 x1_105 m105) : lX1_goOn_105 o R J_2 x1_105 m105 := fun I hI => h I (fun J hJ _ _ hb => hI J hJ _ _ (bX1_goOn_105_mono hQ hb))
theorem bX1_goOn_2_mono {o : Nat} {Q : Mm → Prop} {J_2 : Int32 → Mm → Prop} {x1_2 : Int32} {m2 : Mm} {R : Mm → Prop} (hQ : ∀ z0, Q z0 → R z0) (h : bX1_goOn_2 o Q J_2 x1_2 m2) : bX1_goOn_2 o R J_2 x1_2 m2 := by
  unfold bX1_goOn_2 at h ⊢
  repeat (first | with_reducible exact h | with_reducible exact hQ _ h | with_reducible refine And.imp (fun h => ?_) (fun h => ?_) h | with_reducible refine lX1_goOn_105_mono (fun _ h => ?_) h | with_reducible refine wX1_grows_mono (fun _ _ h => ?_) h | with_reducible refine wX1_shrinks_mono (fun _ _ h => ?_) h | with_reducible refine wX6_at__mono (fun _ _ h => ?_) h | with_reducible refine wX6_set__mono (fun _ h => ?_) h | (intro c; replace h := h c))
theorem lX1_goOn_2_mono {o : Nat} {Q : Mm → Prop} {x1_2 : Int32} {m2 : Mm} {R : Mm → Prop} (hQ : ∀ z0, Q z0 → R z0) (h : lX1_goOn_2 o Q x1_2 m2) : lX1_goOn_2 o R x1_2 m2 := fun I hI => h I (fun J hJ _ _ hb => hI J hJ _ _ (bX1_goOn_2_mono hQ hb))
theorem wX1_goOn_mono {o : Nat} {Q : Mm → Prop} {M : Mm} {R : Mm → Prop} (hQ : ∀ z0, Q z0 → R z0) (h : wX1_goOn o Q M) : wX1_goOn o R M := by
  unfold wX1_goOn at h ⊢
  repeat (first | with_reducible exact h | with_reducible exact hQ _ h | with_reducible refine And.imp (fun h => ?_) (fun h => ?_) h | with_reducible refine lX1_goOn_2_mono (fun _ h => ?_) h | (intro c; replace h := h c))
theorem bX1_afterMinutes_42_mono {o : Nat} {a1 : Int32} {a3 : Int32} {a4 : Int32} {Q : Int64 → Mm → Prop} {J_3 : Int32 → Mm → Prop} {J_42 : Int64 → Int32 → Mm → Prop} {x5_42 : Int64} {x7_42 : Int32} {m42 : Mm} {R : Int64 → Mm → Prop} (hQ : ∀ z0 z1, Q z0 z1 → R z0 z1) (h : bX1_afterMinutes_42 o a1 a3 a4 Q J_3 J_42 x5_42 x7_42 m42) : bX1_afterMinutes_42 o a1 a3 a4 R J_3 J_42 x5_42 x7_42 m42 := by
  unfold bX1_afterMinutes_42 at h ⊢
  repeat (first | with_reducible exact h | with_reducible exact hQ _ _ h | with_reducible refine And.imp (fun h => ?_) (fun h => ?_) h | with_reducible refine wX6_at__mono (fun _ _ h => ?_) h | with_reducible refine wX6_share_mono (fun _ _ h => ?_) h | with_reducible refine wX1_goOn_mono (fun _ h => ?_) h | (intro c; replace h := h c))
theorem lX1_afterMinutes_42_mono {o : Nat} {a1 : Int32} {a3 : Int32} {a4 : Int32} {Q : Int64 → Mm → Prop} {J_3 : Int32 → Mm → Prop} {x5_42 : Int64} {x7_42 : Int32} {m42 : Mm} {R : Int64 → Mm → Prop} (hQ : ∀ z0 z1, Q z0 z1 → R z0 z1) (h : lX1_afterMinutes_42 o a1 a3 a4 Q J_3 x5_42 x7_42 m42) : lX1_afterMinutes_42 o a1 a3 a4 R J_3 x5_42 x7_42 m42 := fun I hI => h I (fun J hJ _ _ _ hb => hI J hJ _ _ _ (bX1_afterMinutes_42_mono hQ hb))
theorem bX1_afterMinutes_3_mono {o : Nat} {a1 : Int32} {a2 : Int32} {a3 : Int32} {a4 : Int32} {Q : Int64 → Mm → Prop} {J_3 : Int32 → Mm → Prop} {x5_3 : Int32} {m3 : Mm} {R : Int64 → Mm → Prop} (hQ : ∀ z0 z1, Q z0 z1 → R z0 z1) (h : bX1_afterMinutes_3 o a1 a2 a3 a4 Q J_3 x5_3 m3) : bX1_afterMinutes_3 o a1 a2 a3 a4 R J_3 x5_3 m3 := by
  unfold bX1_afterMinutes_3 at h ⊢
  repeat (first | with_reducible exact h | with_reducible exact hQ _ _ h | with_reducible refine And.imp (fun h => ?_) (fun h => ?_) h | with_reducible refine lX1_afterMinutes_42_mono (fun _ _ h => ?_) h | with_reducible refine wX6_set__mono (fun _ h => ?_) h | (intro c; replace h := h c))
theorem lX1_afterMinutes_3_mono {o : Nat} {a1 : Int32} {a2 : Int32} {a3 : Int32} {a4 : Int32} {Q : Int64 → Mm → Prop} {x5_3 : Int32} {m3 : Mm} {R : Int64 → Mm → Prop} (hQ : ∀ z0 z1, Q z0 z1 → R z0 z1) (h : lX1_afterMinutes_3 o a1 a2 a3 a4 Q x5_3 m3) : lX1_afterMinutes_3 o a1 a2 a3 a4 R x5_3 m3 := fun I hI => h I (fun J hJ _ _ hb => hI J hJ _ _ (bX1_afterMinutes_3_mono hQ hb))
theorem wX1_afterMinutes_mono {o : Nat} {a1 : Int32} {a2 : Int32} {a3 : Int32} {a4 : Int32} {Q : Int64 → Mm → Prop} {M : Mm} {R : Int64 → Mm → Prop} (hQ : ∀ z0 z1, Q z0 z1 → R z0 z1) (h : wX1_afterMinutes o a1 a2 a3 a4 Q M) : wX1_afterMinutes o a1 a2 a3 a4 R M := by
  unfold wX1_afterMinutes at h ⊢
  repeat (first | with_reducible exact h | with_reducible exact hQ _ _ h | with_reducible refine And.imp (fun h => ?_) (fun h => ?_) h | with_reducible refine lX1_afterMinutes_3_mono (fun _ _ h => ?_) h | (intro c; replace h := h c))
theorem bX1_comeBlind_17_mono {o : Nat} {a2 : Int32} {Q : Mm → Prop} {J_17 : Int32 → Mm → Prop} {x3_17 : Int32} {m17 : Mm} {R : Mm → Prop} (hQ : ∀ z0, Q z0 → R z0) (h : bX1_comeBlind_17 o a2 Q J_17 x3_17 m17) : bX1_comeBlind_17 o a2 R J_17 x3_17 m17 := by
  unfold bX1_comeBlind_17 at h ⊢
  repeat (first | with_reducible exact h | with_reducible exact hQ _ h | with_reducible refine And.imp (fun h => ?_) (fun h => ?_) h | with_reducible refine wX1_weigh_mono (fun _ h => ?_) h | with_reducible refine wX6_set_mono (fun _ h => ?_) h | with_reducible refine wX6_at_mono (fun _ _ h => ?_) h | (intro c; replace h := h c))
theorem lX1_comeBlind_17_mono {o : Nat} {a2 : Int32} {Q : Mm → Prop} {x3_17 : Int32} {m17 : Mm} {R : Mm → Prop} (hQ : ∀ z0, Q z0 → R z0) (h : lX1_comeBlind_17 o a2 Q x3_17 m17) : lX1_comeBlind_17 o a2 R x3_17 m17 := fun I hI => h I (fun J hJ _ _ hb => hI J hJ _ _ (bX1_comeBlind_17_mono hQ hb))
theorem wX1_comeBlind_mono {o : Nat} {a2 : Int32} {Q : Mm → Prop} {M : Mm} {R : Mm → Prop} (hQ : ∀ z0, Q z0 → R z0) (h : wX1_comeBlind o a2 Q M) : wX1_comeBlind o a2 R M := by
  unfold wX1_comeBlind at h ⊢
  repeat (first | with_reducible exact h | with_reducible exact hQ _ h | with_reducible refine And.imp (fun h => ?_) (fun h => ?_) h | with_reducible refine lX1_comeBlind_17_mono (fun _ h => ?_) h | (intro c; replace h := h c))
theorem wX6_faulted_mono {a1 : Int32} {Q : Int32 → Mm → Prop} {M : Mm} {R : Int32 → Mm → Prop} (hQ : ∀ z0 z1, Q z0 z1 → R z0 z1) (h : wX6_faulted a1 Q M) : wX6_faulted a1 R M := by
  unfold wX6_faulted at h ⊢
  repeat (first | with_reducible exact h | with_reducible exact hQ _ _ h | with_reducible refine And.imp (fun h => ?_) (fun h => ?_) h | (intro c; replace h := h c))
theorem wX6_place_mono {a1 : Int32} {a2 : Int32} {a3 : Int32} {a4 : Int32} {Q : Int32 → Mm → Prop} {M : Mm} {R : Int32 → Mm → Prop} (hQ : ∀ z0 z1, Q z0 z1 → R z0 z1) (h : wX6_place a1 a2 a3 a4 Q M) : wX6_place a1 a2 a3 a4 R M := by
  unfold wX6_place at h ⊢
  repeat (first | with_reducible exact h | with_reducible exact hQ _ _ h | with_reducible refine And.imp (fun h => ?_) (fun h => ?_) h | with_reducible refine wX4_has_mono (fun _ _ h => ?_) h | with_reducible refine wX6_isWithin_mono (fun _ _ h => ?_) h | with_reducible refine wX4_isOfAnotherLane_mono (fun _ _ h => ?_) h | with_reducible refine wX4_hasNothing_mono (fun _ _ h => ?_) h | with_reducible refine wX4_sizeOf_mono (fun _ _ h => ?_) h | with_reducible refine wX6_faulted_mono (fun _ _ h => ?_) h | with_reducible refine wX5_isTaken_mono (fun _ _ h => ?_) h | with_reducible refine wX2_becomes_mono (fun _ h => ?_) h | with_reducible refine wX3_empties_mono (fun _ h => ?_) h | with_reducible refine wX0_forgets_mono (fun _ h => ?_) h | (intro c; replace h := h c))
theorem wX6_about_mono {a1 : Int32} {Q : Int32 → Mm → Prop} {M : Mm} {R : Int32 → Mm → Prop} (hQ : ∀ z0 z1, Q z0 z1 → R z0 z1) (h : wX6_about a1 Q M) : wX6_about a1 R M := by
  unfold wX6_about at h ⊢
  repeat (first | with_reducible exact h | with_reducible exact hQ _ _ h | with_reducible refine And.imp (fun h => ?_) (fun h => ?_) h | with_reducible refine wX6_isWithin_mono (fun _ _ h => ?_) h | with_reducible refine wX2_twelfthsTogether_mono (fun _ _ h => ?_) h | (intro c; replace h := h c))
theorem wX6_ofSort_mono {a1 : Int32} {a2 : Int32} {Q : Int32 → Mm → Prop} {M : Mm} {R : Int32 → Mm → Prop} (hQ : ∀ z0 z1, Q z0 z1 → R z0 z1) (h : wX6_ofSort a1 a2 Q M) : wX6_ofSort a1 a2 R M := by
  unfold wX6_ofSort at h ⊢
  repeat (first | with_reducible exact h | with_reducible exact hQ _ _ h | with_reducible refine And.imp (fun h => ?_) (fun h => ?_) h | with_reducible refine wX2_has_mono (fun _ _ h => ?_) h | with_reducible refine wX6_at_mono (fun _ _ h => ?_) h | with_reducible refine wX2_hisBar_mono (fun _ _ h => ?_) h | (intro c; replace h := h c))
theorem wX6_bar_mono {a1 : Int32} {a2 : Int32} {Q : Int32 → Mm → Prop} {M : Mm} {R : Int32 → Mm → Prop} (hQ : ∀ z0 z1, Q z0 z1 → R z0 z1) (h : wX6_bar a1 a2 Q M) : wX6_bar a1 a2 R M := by
  unfold wX6_bar at h ⊢
  repeat (first | with_reducible exact h | with_reducible exact hQ _ _ h | with_reducible refine And.imp (fun h => ?_) (fun h => ?_) h | with_reducible refine wX2_has_mono (fun _ _ h => ?_) h | with_reducible refine wX6_isWithin_mono (fun _ _ h => ?_) h | with_reducible refine wX6_at_mono (fun _ _ h => ?_) h | with_reducible refine wX6_set_mono (fun _ h => ?_) h | (intro c; replace h := h c))
theorem wX6_toll_mono {a1 : Int32} {Q : Int32 → Mm → Prop} {M : Mm} {R : Int32 → Mm → Prop} (hQ : ∀ z0 z1, Q z0 z1 → R z0 z1) (h : wX6_toll a1 Q M) : wX6_toll a1 R M := by
  unfold wX6_toll at h ⊢
  repeat (first | with_reducible exact h | with_reducible exact hQ _ _ h | with_reducible refine And.imp (fun h => ?_) (fun h => ?_) h | with_reducible refine wX6_isWithin_mono (fun _ _ h => ?_) h | (intro c; replace h := h c))
theorem wX6_board_mono {a1 : Int32} {a2 : Int32} {Q : Int32 → Mm → Prop} {M : Mm} {R : Int32 → Mm → Prop} (hQ : ∀ z0 z1, Q z0 z1 → R z0 z1) (h : wX6_board a1 a2 Q M) : wX6_board a1 a2 R M := by
  unfold wX6_board at h ⊢
  repeat (first | with_reducible exact h | with_reducible exact hQ _ _ h | with_reducible refine And.imp (fun h => ?_) (fun h => ?_) h | with_reducible refine wX6_isWithin_mono (fun _ _ h => ?_) h | (intro c; replace h := h c))
theorem wX6_barFor_mono {a1 : Int32} {a2 : Int32} {Q : Int32 → Mm → Prop} {M : Mm} {R : Int32 → Mm → Prop} (hQ : ∀ z0 z1, Q z0 z1 → R z0 z1) (h : wX6_barFor a1 a2 Q M) : wX6_barFor a1 a2 R M := by
  unfold wX6_barFor at h ⊢
  repeat (first | with_reducible exact h | with_reducible exact hQ _ _ h | with_reducible refine And.imp (fun h => ?_) (fun h => ?_) h | with_reducible refine wX2_hisBar_mono (fun _ _ h => ?_) h | with_reducible refine wX6_at_mono (fun _ _ h => ?_) h | (intro c; replace h := h c))
theorem bX6_bars_45_mono {a1 : Int32} {Q : Int32 → Mm → Prop} {J_45 : Int32 → Int32 → Mm → Prop} {x2_45 : Int32} {x3_45 : Int32} {m45 : Mm} {R : Int32 → Mm → Prop} (hQ : ∀ z0 z1, Q z0 z1 → R z0 z1) (h : bX6_bars_45 a1 Q J_45 x2_45 x3_45 m45) : bX6_bars_45 a1 R J_45 x2_45 x3_45 m45 := by
  unfold bX6_bars_45 at h ⊢
  repeat (first | with_reducible exact h | with_reducible exact hQ _ _ h | with_reducible refine And.imp (fun h => ?_) (fun h => ?_) h | with_reducible refine wX6_barFor_mono (fun _ _ h => ?_) h | with_reducible refine wX6_at_mono (fun _ _ h => ?_) h | with_reducible refine wX6_set_mono (fun _ h => ?_) h | (intro c; replace h := h c))
theorem lX6_bars_45_mono {a1 : Int32} {Q : Int32 → Mm → Prop} {x2_45 : Int32} {x3_45 : Int32} {m45 : Mm} {R : Int32 → Mm → Prop} (hQ : ∀ z0 z1, Q z0 z1 → R z0 z1) (h : lX6_bars_45 a1 Q x2_45 x3_45 m45) : lX6_bars_45 a1 R x2_45 x3_45 m45 := fun I hI => h I (fun J hJ _ _ _ hb => hI J hJ _ _ _ (bX6_bars_45_mono hQ hb))
theorem wX6_bars_mono {a1 : Int32} {Q : Int32 → Mm → Prop} {M : Mm} {R : Int32 → Mm → Prop} (hQ : ∀ z0 z1, Q z0 z1 → R z0 z1) (h : wX6_bars a1 Q M) : wX6_bars a1 R M := by
  unfold wX6_bars at h ⊢
  repeat (first | with_reducible exact h | with_reducible exact hQ _ _ h | with_reducible refine And.imp (fun h => ?_) (fun h => ?_) h | with_reducible refine wX6_isWithin_mono (fun _ _ h => ?_) h | with_reducible refine wX0_knowBest_mono (fun _ h => ?_) h | with_reducible refine lX6_bars_45_mono (fun _ _ h => ?_) h | (intro c; replace h := h c))
theorem wX6_often_mono {a1 : Int32} {a2 : Int32} {Q : Int64 → Mm → Prop} {M : Mm} {R : Int64 → Mm → Prop} (hQ : ∀ z0 z1, Q z0 z1 → R z0 z1) (h : wX6_often a1 a2 Q M) : wX6_often a1 a2 R M := by
  unfold wX6_often at h ⊢
  repeat (first | with_reducible exact h | with_reducible exact hQ _ _ h | with_reducible refine And.imp (fun h => ?_) (fun h => ?_) h | with_reducible refine wX6_isWithin_mono (fun _ _ h => ?_) h | with_reducible refine wX1_comeByBars_mono (fun _ h => ?_) h | with_reducible refine wX6_at__mono (fun _ _ h => ?_) h | with_reducible refine wX6_share_mono (fun _ _ h => ?_) h | (intro c; replace h := h c))
theorem wX6_mean_mono {a1 : Int32} {Q : Int64 → Mm → Prop} {M : Mm} {R : Int64 → Mm → Prop} (hQ : ∀ z0 z1, Q z0 z1 → R z0 z1) (h : wX6_mean a1 Q M) : wX6_mean a1 R M := by
  unfold wX6_mean at h ⊢
  repeat (first | with_reducible exact h | with_reducible exact hQ _ _ h | with_reducible refine And.imp (fun h => ?_) (fun h => ?_) h | with_reducible refine wX6_isWithin_mono (fun _ _ h => ?_) h | with_reducible refine wX1_comeByBars_mono (fun _ h => ?_) h | with_reducible refine wX1_lengthsByWeight_mono (fun _ _ h => ?_) h | with_reducible refine wX6_share_mono (fun _ _ h => ?_) h | (intro c; replace h := h c))
theorem wX6_on_mono {a1 : Int32} {a2 : Int32} {Q : Int64 → Mm → Prop} {M : Mm} {R : Int64 → Mm → Prop} (hQ : ∀ z0 z1, Q z0 z1 → R z0 z1) (h : wX6_on a1 a2 Q M) : wX6_on a1 a2 R M := by
  unfold wX6_on at h ⊢
  repeat (first | with_reducible exact h | with_reducible exact hQ _ _ h | with_reducible refine And.imp (fun h => ?_) (fun h => ?_) h | with_reducible refine wX2_has_mono (fun _ _ h => ?_) h | with_reducible refine wX6_isWithin_mono (fun _ _ h => ?_) h | with_reducible refine wX1_comeByBars_mono (fun _ h => ?_) h | with_reducible refine wX6_at_mono (fun _ _ h => ?_) h | with_reducible refine wX1_foundBelow_mono (fun _ _ h => ?_) h | with_reducible refine wX6_share_mono (fun _ _ h => ?_) h | (intro c; replace h := h c))
theorem wX6_less_mono {a1 : Int32} {a2 : Int32} {Q : Int64 → Mm → Prop} {M : Mm} {R : Int64 → Mm → Prop} (hQ : ∀ z0 z1, Q z0 z1 → R z0 z1) (h : wX6_less a1 a2 Q M) : wX6_less a1 a2 R M := by
  unfold wX6_less at h ⊢
  repeat (first | with_reducible exact h | with_reducible exact hQ _ _ h | with_reducible refine And.imp (fun h => ?_) (fun h => ?_) h | with_reducible refine wX6_isWithin_mono (fun _ _ h => ?_) h | with_reducible refine wX1_comeByBars_mono (fun _ h => ?_) h | with_reducible refine wX6_at__mono (fun _ _ h => ?_) h | with_reducible refine wX1_tillLess_mono (fun _ _ h => ?_) h | (intro c; replace h := h c))
theorem wX6_after_mono {a1 : Int32} {a2 : Int32} {a3 : Int32} {a4 : Int32} {Q : Int64 → Mm → Prop} {M : Mm} {R : Int64 → Mm → Prop} (hQ : ∀ z0 z1, Q z0 z1 → R z0 z1) (h : wX6_after a1 a2 a3 a4 Q M) : wX6_after a1 a2 a3 a4 R M := by
  unfold wX6_after at h ⊢
  repeat (first | with_reducible exact h | with_reducible exact hQ _ _ h | with_reducible refine And.imp (fun h => ?_) (fun h => ?_) h | with_reducible refine wX6_isWithin_mono (fun _ _ h => ?_) h | with_reducible refine wX1_comeByBars_mono (fun _ h => ?_) h | with_reducible refine wX1_afterMinutes_mono (fun _ _ h => ?_) h | (intro c; replace h := h c))
theorem wX6_minutes_mono {a1 : Int32} {a2 : Int32} {Q : Int64 → Mm → Prop} {M : Mm} {R : Int64 → Mm → Prop} (hQ : ∀ z0 z1, Q z0 z1 → R z0 z1) (h : wX6_minutes a1 a2 Q M) : wX6_minutes a1 a2 R M := by
  unfold wX6_minutes at h ⊢
  repeat (first | with_reducible exact h | with_reducible exact hQ _ _ h | with_reducible refine And.imp (fun h => ?_) (fun h => ?_) h | with_reducible refine wX6_isWithin_mono (fun _ _ h => ?_) h | with_reducible refine wX2_minutesAsTold_mono (fun _ _ h => ?_) h | with_reducible refine wX6_share_mono (fun _ _ h => ?_) h | (intro c; replace h := h c))
theorem wX6_gain_mono {a1 : Int32} {Q : Int64 → Mm → Prop} {M : Mm} {R : Int64 → Mm → Prop} (hQ : ∀ z0 z1, Q z0 z1 → R z0 z1) (h : wX6_gain a1 Q M) : wX6_gain a1 R M := by
  unfold wX6_gain at h ⊢
  repeat (first | with_reducible exact h | with_reducible exact hQ _ _ h | with_reducible refine And.imp (fun h => ?_) (fun h => ?_) h | with_reducible refine wX6_isWithin_mono (fun _ _ h => ?_) h | with_reducible refine wX0_reckon_mono (fun _ h => ?_) h | with_reducible refine wX6_share_mono (fun _ _ h => ?_) h | (intro c; replace h := h c))
theorem wX6_best_mono {a1 : Int32} {Q : Int32 → Mm → Prop} {M : Mm} {R : Int32 → Mm → Prop} (hQ : ∀ z0 z1, Q z0 z1 → R z0 z1) (h : wX6_best a1 Q M) : wX6_best a1 R M := by
  unfold wX6_best at h ⊢
  repeat (first | with_reducible exact h | with_reducible exact hQ _ _ h | with_reducible refine And.imp (fun h => ?_) (fun h => ?_) h | with_reducible refine wX2_has_mono (fun _ _ h => ?_) h | with_reducible refine wX0_knowBest_mono (fun _ h => ?_) h | with_reducible refine wX6_at_mono (fun _ _ h => ?_) h | (intro c; replace h := h c))
theorem wX6_against_mono {a1 : Int32} {a2 : Int32} {Q : Int32 → Mm → Prop} {M : Mm} {R : Int32 → Mm → Prop} (hQ : ∀ z0 z1, Q z0 z1 → R z0 z1) (h : wX6_against a1 a2 Q M) : wX6_against a1 a2 R M := by
  unfold wX6_against at h ⊢
  repeat (first | with_reducible exact h | with_reducible exact hQ _ _ h | with_reducible refine And.imp (fun h => ?_) (fun h => ?_) h | with_reducible refine wX6_rowsOf_mono (fun _ _ h => ?_) h | with_reducible refine wX6_isWithin_mono (fun _ _ h => ?_) h | with_reducible refine wX0_rowBecomes_mono (fun _ h => ?_) h | with_reducible refine wX0_reckon_mono (fun _ h => ?_) h | with_reducible refine wX6_compareShares_mono (fun _ _ h => ?_) h | (intro c; replace h := h c))
theorem bX6_mendsAll_2_mono {a1 : Int32} {Q : Int32 → Mm → Prop} {J_2 : Int32 → Mm → Prop} {x2_2 : Int32} {m2 : Mm} {R : Int32 → Mm → Prop} (hQ : ∀ z0 z1, Q z0 z1 → R z0 z1) (h : bX6_mendsAll_2 a1 Q J_2 x2_2 m2) : bX6_mendsAll_2 a1 R J_2 x2_2 m2 := by
  unfold bX6_mendsAll_2 at h ⊢
  repeat (first | with_reducible exact h | with_reducible exact hQ _ _ h | with_reducible refine And.imp (fun h => ?_) (fun h => ?_) h | with_reducible refine wX2_hisBarUnseen_mono (fun _ _ h => ?_) h | with_reducible refine wX6_at_mono (fun _ _ h => ?_) h | (intro c; replace h := h c))
theorem lX6_mendsAll_2_mono {a1 : Int32} {Q : Int32 → Mm → Prop} {x2_2 : Int32} {m2 : Mm} {R : Int32 → Mm → Prop} (hQ : ∀ z0 z1, Q z0 z1 → R z0 z1) (h : lX6_mendsAll_2 a1 Q x2_2 m2) : lX6_mendsAll_2 a1 R x2_2 m2 := fun I hI => h I (fun J hJ _ _ hb => hI J hJ _ _ (bX6_mendsAll_2_mono hQ hb))
theorem wX6_mendsAll_mono {a1 : Int32} {Q : Int32 → Mm → Prop} {M : Mm} {R : Int32 → Mm → Prop} (hQ : ∀ z0 z1, Q z0 z1 → R z0 z1) (h : wX6_mendsAll a1 Q M) : wX6_mendsAll a1 R M := by
  unfold wX6_mendsAll at h ⊢
  repeat (first | with_reducible exact h | with_reducible exact hQ _ _ h | with_reducible refine And.imp (fun h => ?_) (fun h => ?_) h | with_reducible refine lX6_mendsAll_2_mono (fun _ _ h => ?_) h | (intro c; replace h := h c))
theorem bX6_mends_48_mono {a1 : Int32} {Q : Int32 → Mm → Prop} {J_48 : Int32 → Int32 → Int32 → Int32 → Mm → Prop} {x2_48 : Int32} {x3_48 : Int32} {x4_48 : Int32} {x5_48 : Int32} {m48 : Mm} {R : Int32 → Mm → Prop} (hQ : ∀ z0 z1, Q z0 z1 → R z0 z1) (h : bX6_mends_48 a1 Q J_48 x2_48 x3_48 x4_48 x5_48 m48) : bX6_mends_48 a1 R J_48 x2_48 x3_48 x4_48 x5_48 m48 := by
  unfold bX6_mends_48 at h ⊢
  repeat (first | with_reducible exact h | with_reducible exact hQ _ _ h | with_reducible refine And.imp (fun h => ?_) (fun h => ?_) h | with_reducible refine wX6_mendsAll_mono (fun _ _ h => ?_) h | (intro c; replace h := h c))
theorem lX6_mends_48_mono {a1 : Int32} {Q : Int32 → Mm → Prop} {x2_48 : Int32} {x3_48 : Int32} {x4_48 : Int32} {x5_48 : Int32} {m48 : Mm} {R : Int32 → Mm → Prop} (hQ : ∀ z0 z1, Q z0 z1 → R z0 z1) (h : lX6_mends_48 a1 Q x2_48 x3_48 x4_48 x5_48 m48) : lX6_mends_48 a1 R x2_48 x3_48 x4_48 x5_48 m48 := fun I hI => h I (fun J hJ _ _ _ _ _ hb => hI J hJ _ _ _ _ _ (bX6_mends_48_mono hQ hb))
theorem wX6_mends_mono {a1 : Int32} {Q : Int32 → Mm → Prop} {M : Mm} {R : Int32 → Mm → Prop} (hQ : ∀ z0 z1, Q z0 z1 → R z0 z1) (h : wX6_mends a1 Q M) : wX6_mends a1 R M := by
  unfold wX6_mends at h ⊢
  repeat (first | with_reducible exact h | with_reducible exact hQ _ _ h | with_reducible refine And.imp (fun h => ?_) (fun h => ?_) h | with_reducible refine wX6_isWithin_mono (fun _ _ h => ?_) h | with_reducible refine wX0_knowBest_mono (fun _ h => ?_) h | with_reducible refine lX6_mends_48_mono (fun _ _ h => ?_) h | (intro c; replace h := h c))
theorem wX6_blind_mono {a1 : Int32} {a2 : Int32} {a3 : Int32} {Q : Int64 → Mm → Prop} {M : Mm} {R : Int64 → Mm → Prop} (hQ : ∀ z0 z1, Q z0 z1 → R z0 z1) (h : wX6_blind a1 a2 a3 Q M) : wX6_blind a1 a2 a3 R M := by
  unfold wX6_blind at h ⊢
  repeat (first | with_reducible exact h | with_reducible exact hQ _ _ h | with_reducible refine And.imp (fun h => ?_) (fun h => ?_) h | with_reducible refine wX6_isWithin_mono (fun _ _ h => ?_) h | with_reducible refine wX1_comeBlind_mono (fun _ h => ?_) h | with_reducible refine wX6_at__mono (fun _ _ h => ?_) h | with_reducible refine wX6_share_mono (fun _ _ h => ?_) h | (intro c; replace h := h c))
theorem bX6_paysBlind_20_mono {Q : Int32 → Mm → Prop} {J_20 : Int64 → Int64 → Int32 → Mm → Prop} {x2_20 : Int64} {x4_20 : Int64} {x6_20 : Int32} {m20 : Mm} {R : Int32 → Mm → Prop} (hQ : ∀ z0 z1, Q z0 z1 → R z0 z1) (h : bX6_paysBlind_20 Q J_20 x2_20 x4_20 x6_20 m20) : bX6_paysBlind_20 R J_20 x2_20 x4_20 x6_20 m20 := by
  unfold bX6_paysBlind_20 at h ⊢
  repeat (first | with_reducible exact h | with_reducible exact hQ _ _ h | with_reducible refine And.imp (fun h => ?_) (fun h => ?_) h | with_reducible refine wX6_at_mono (fun _ _ h => ?_) h | with_reducible refine wX1_found_mono (fun _ _ h => ?_) h | (intro c; replace h := h c))
theorem lX6_paysBlind_20_mono {Q : Int32 → Mm → Prop} {x2_20 : Int64} {x4_20 : Int64} {x6_20 : Int32} {m20 : Mm} {R : Int32 → Mm → Prop} (hQ : ∀ z0 z1, Q z0 z1 → R z0 z1) (h : lX6_paysBlind_20 Q x2_20 x4_20 x6_20 m20) : lX6_paysBlind_20 R x2_20 x4_20 x6_20 m20 := fun I hI => h I (fun J hJ _ _ _ _ hb => hI J hJ _ _ _ _ (bX6_paysBlind_20_mono hQ hb))
theorem wX6_paysBlind_mono {a1 : Int32} {Q : Int32 → Mm → Prop} {M : Mm} {R : Int32 → Mm → Prop} (hQ : ∀ z0 z1, Q z0 z1 → R z0 z1) (h : wX6_paysBlind a1 Q M) : wX6_paysBlind a1 R M := by
  unfold wX6_paysBlind at h ⊢
  repeat (first | with_reducible exact h | with_reducible exact hQ _ _ h | with_reducible refine And.imp (fun h => ?_) (fun h => ?_) h | with_reducible refine wX1_comeBlind_mono (fun _ h => ?_) h | with_reducible refine lX6_paysBlind_20_mono (fun _ _ h => ?_) h | (intro c; replace h := h c))
theorem bX6_rest_17_mono {Q : Int32 → Mm → Prop} {J_17 : Int32 → Mm → Prop} {x1_17 : Int32} {m17 : Mm} {R : Int32 → Mm → Prop} (hQ : ∀ z0 z1, Q z0 z1 → R z0 z1) (h : bX6_rest_17 Q J_17 x1_17 m17) : bX6_rest_17 R J_17 x1_17 m17 := by
  unfold bX6_rest_17 at h ⊢
  repeat (first | with_reducible exact h | with_reducible exact hQ _ _ h | with_reducible refine And.imp (fun h => ?_) (fun h => ?_) h | with_reducible refine wX6_paysBlind_mono (fun _ _ h => ?_) h | (intro c; replace h := h c))
theorem lX6_rest_17_mono {Q : Int32 → Mm → Prop} {x1_17 : Int32} {m17 : Mm} {R : Int32 → Mm → Prop} (hQ : ∀ z0 z1, Q z0 z1 → R z0 z1) (h : lX6_rest_17 Q x1_17 m17) : lX6_rest_17 R x1_17 m17 := fun I hI => h I (fun J hJ _ _ hb => hI J hJ _ _ (bX6_rest_17_mono hQ hb))
theorem wX6_rest_mono {Q : Int32 → Mm → Prop} {M : Mm} {R : Int32 → Mm → Prop} (hQ : ∀ z0 z1, Q z0 z1 → R z0 z1) (h : wX6_rest Q M) : wX6_rest R M := by
  unfold wX6_rest at h ⊢
  repeat (first | with_reducible exact h | with_reducible exact hQ _ _ h | with_reducible refine And.imp (fun h => ?_) (fun h => ?_) h | with_reducible refine lX6_rest_17_mono (fun _ _ h => ?_) h | (intro c; replace h := h c))
theorem wX6_order_mono {a1 : Int32} {Q : Int32 → Mm → Prop} {M : Mm} {R : Int32 → Mm → Prop} (hQ : ∀ z0 z1, Q z0 z1 → R z0 z1) (h : wX6_order a1 Q M) : wX6_order a1 R M := by
  unfold wX6_order at h ⊢
  repeat (first | with_reducible exact h | with_reducible exact hQ _ _ h | with_reducible refine And.imp (fun h => ?_) (fun h => ?_) h | with_reducible refine wX6_isWithin_mono (fun _ _ h => ?_) h | (intro c; replace h := h c))
theorem wX6_minute_mono {a1 : Int32} {a2 : Int32} {Q : Int32 → Mm → Prop} {M : Mm} {R : Int32 → Mm → Prop} (hQ : ∀ z0 z1, Q z0 z1 → R z0 z1) (h : wX6_minute a1 a2 Q M) : wX6_minute a1 a2 R M := by
  unfold wX6_minute at h ⊢
  repeat (first | with_reducible exact h | with_reducible exact hQ _ _ h | with_reducible refine And.imp (fun h => ?_) (fun h => ?_) h | with_reducible refine wX6_isWithin_mono (fun _ _ h => ?_) h | with_reducible refine wX2_sortDrawn_mono (fun _ _ h => ?_) h | with_reducible refine wX3_allWait_mono (fun _ h => ?_) h | with_reducible refine wX6_at_mono (fun _ _ h => ?_) h | with_reducible refine wX3_comes_mono (fun _ _ h => ?_) h | with_reducible refine wX3_nextBy_mono (fun _ _ h => ?_) h | with_reducible refine wX3_serve_mono (fun _ _ h => ?_) h | with_reducible refine wX3_isFull_mono (fun _ _ h => ?_) h | (intro c; replace h := h c))
theorem wX6_isKind_mono {a1 : Int32} {a2 : Int32} {Q : Int32 → Mm → Prop} {M : Mm} {R : Int32 → Mm → Prop} (hQ : ∀ z0 z1, Q z0 z1 → R z0 z1) (h : wX6_isKind a1 a2 Q M) : wX6_isKind a1 a2 R M := by
  unfold wX6_isKind at h ⊢
  repeat (first | with_reducible exact h | with_reducible exact hQ _ _ h | with_reducible refine And.imp (fun h => ?_) (fun h => ?_) h | with_reducible refine wX6_at_mono (fun _ _ h => ?_) h | (intro c; replace h := h c))
theorem wX6_ofComer_mono {a1 : Int32} {a2 : Int32} {Q : Int32 → Mm → Prop} {M : Mm} {R : Int32 → Mm → Prop} (hQ : ∀ z0 z1, Q z0 z1 → R z0 z1) (h : wX6_ofComer a1 a2 Q M) : wX6_ofComer a1 a2 R M := by
  unfold wX6_ofComer at h ⊢
  repeat (first | with_reducible exact h | with_reducible exact hQ _ _ h | with_reducible refine And.imp (fun h => ?_) (fun h => ?_) h | with_reducible refine wX3_has_mono (fun _ _ h => ?_) h | with_reducible refine wX6_at_mono (fun _ _ h => ?_) h | with_reducible refine wX6_isKind_mono (fun _ _ h => ?_) h | (intro c; replace h := h c))
theorem wX6_leave_mono {a1 : Int32} {Q : Int32 → Mm → Prop} {M : Mm} {R : Int32 → Mm → Prop} (hQ : ∀ z0 z1, Q z0 z1 → R z0 z1) (h : wX6_leave a1 Q M) : wX6_leave a1 R M := by
  unfold wX6_leave at h ⊢
  repeat (first | with_reducible exact h | with_reducible exact hQ _ _ h | with_reducible refine And.imp (fun h => ?_) (fun h => ?_) h | with_reducible refine wX3_has_mono (fun _ _ h => ?_) h | with_reducible refine wX3_placeOf_mono (fun _ _ h => ?_) h | with_reducible refine wX3_takeOut_mono (fun _ h => ?_) h | with_reducible refine wX6_set_mono (fun _ h => ?_) h | (intro c; replace h := h c))
theorem wX6_line_mono {a1 : Int32} {Q : Int32 → Mm → Prop} {M : Mm} {R : Int32 → Mm → Prop} (hQ : ∀ z0 z1, Q z0 z1 → R z0 z1) (h : wX6_line a1 Q M) : wX6_line a1 R M := by
  unfold wX6_line at h ⊢
  repeat (first | with_reducible exact h | with_reducible exact hQ _ _ h | with_reducible refine And.imp (fun h => ?_) (fun h => ?_) h | with_reducible refine wX6_isWithin_mono (fun _ _ h => ?_) h | with_reducible refine wX6_at_mono (fun _ _ h => ?_) h | (intro c; replace h := h c))
theorem wX6_envy_mono {Q : Int32 → Mm → Prop} {M : Mm} {R : Int32 → Mm → Prop} (hQ : ∀ z0 z1, Q z0 z1 → R z0 z1) (h : wX6_envy Q M) : wX6_envy R M := by
  unfold wX6_envy at h ⊢
  repeat (first | with_reducible exact h | with_reducible exact hQ _ _ h | with_reducible refine And.imp (fun h => ?_) (fun h => ?_) h | with_reducible refine wX3_envious_mono (fun _ _ h => ?_) h | (intro c; replace h := h c))
theorem wX6_sheet_mono {a1 : Int32} {a2 : Int32} {a3 : Int32} {Q : Int32 → Mm → Prop} {M : Mm} {R : Int32 → Mm → Prop} (hQ : ∀ z0 z1, Q z0 z1 → R z0 z1) (h : wX6_sheet a1 a2 a3 Q M) : wX6_sheet a1 a2 a3 R M := by
  unfold wX6_sheet at h ⊢
  repeat (first | with_reducible exact h | with_reducible exact hQ _ _ h | with_reducible refine And.imp (fun h => ?_) (fun h => ?_) h | with_reducible refine wX4_has_mono (fun _ _ h => ?_) h | with_reducible refine wX6_isWithin_mono (fun _ _ h => ?_) h | with_reducible refine wX4_renew_mono (fun _ h => ?_) h | with_reducible refine wX6_faulted_mono (fun _ _ h => ?_) h | (intro c; replace h := h c))
theorem wX6_lose_mono {a1 : Int32} {Q : Int32 → Mm → Prop} {M : Mm} {R : Int32 → Mm → Prop} (hQ : ∀ z0 z1, Q z0 z1 → R z0 z1) (h : wX6_lose a1 Q M) : wX6_lose a1 R M := by
  unfold wX6_lose at h ⊢
  repeat (first | with_reducible exact h | with_reducible exact hQ _ _ h | with_reducible refine And.imp (fun h => ?_) (fun h => ?_) h | with_reducible refine wX4_has_mono (fun _ _ h => ?_) h | with_reducible refine wX4_hasNothing_mono (fun _ _ h => ?_) h | with_reducible refine wX4_forget_mono (fun _ h => ?_) h | (intro c; replace h := h c))
theorem wX6_put_mono {a1 : Int32} {a2 : Int32} {a3 : Int32} {Q : Int32 → Mm → Prop} {M : Mm} {R : Int32 → Mm → Prop} (hQ : ∀ z0 z1, Q z0 z1 → R z0 z1) (h : wX6_put a1 a2 a3 Q M) : wX6_put a1 a2 a3 R M := by
  unfold wX6_put at h ⊢
  repeat (first | with_reducible exact h | with_reducible exact hQ _ _ h | with_reducible refine And.imp (fun h => ?_) (fun h => ?_) h | with_reducible refine wX4_has_mono (fun _ _ h => ?_) h | with_reducible refine wX4_hasNothing_mono (fun _ _ h => ?_) h | with_reducible refine wX4_sizeOf_mono (fun _ _ h => ?_) h | with_reducible refine wX6_isWithin_mono (fun _ _ h => ?_) h | with_reducible refine wX6_faulted_mono (fun _ _ h => ?_) h | with_reducible refine wX4_write_mono (fun _ h => ?_) h | (intro c; replace h := h c))
theorem wX6_lost_mono {a1 : Int32} {Q : Int64 → Mm → Prop} {M : Mm} {R : Int64 → Mm → Prop} (hQ : ∀ z0 z1, Q z0 z1 → R z0 z1) (h : wX6_lost a1 Q M) : wX6_lost a1 R M := by
  unfold wX6_lost at h ⊢
  repeat (first | with_reducible exact h | with_reducible exact hQ _ _ h | with_reducible refine And.imp (fun h => ?_) (fun h => ?_) h | (intro c; replace h := h c))
theorem wX6_cell_mono {a1 : Int32} {a2 : Int32} {a3 : Int32} {Q : Int64 → Mm → Prop} {M : Mm} {R : Int64 → Mm → Prop} (hQ : ∀ z0 z1, Q z0 z1 → R z0 z1) (h : wX6_cell a1 a2 a3 Q M) : wX6_cell a1 a2 a3 R M := by
  unfold wX6_cell at h ⊢
  repeat (first | with_reducible exact h | with_reducible exact hQ _ _ h | with_reducible refine And.imp (fun h => ?_) (fun h => ?_) h | with_reducible refine wX4_has_mono (fun _ _ h => ?_) h | with_reducible refine wX6_isWithin_mono (fun _ _ h => ?_) h | with_reducible refine wX4_isOfAnotherLane_mono (fun _ _ h => ?_) h | with_reducible refine wX4_hasNothing_mono (fun _ _ h => ?_) h | with_reducible refine wX4_sizeOf_mono (fun _ _ h => ?_) h | with_reducible refine wX6_lost_mono (fun _ _ h => ?_) h | with_reducible refine wX4_read_mono (fun _ _ h => ?_) h | (intro c; replace h := h c))
theorem wX6_leaveNumber_mono {a1 : Int32} {Q : Mm → Prop} {M : Mm} {R : Mm → Prop} (hQ : ∀ z0, Q z0 → R z0) (h : wX6_leaveNumber a1 Q M) : wX6_leaveNumber a1 R M := by
  unfold wX6_leaveNumber at h ⊢
  repeat (first | with_reducible exact h | with_reducible exact hQ _ h | with_reducible refine And.imp (fun h => ?_) (fun h => ?_) h | (intro c; replace h := h c))
theorem wX6_toldByComer_mono {a1 : Int32} {Q : Int32 → Mm → Prop} {M : Mm} {R : Int32 → Mm → Prop} (hQ : ∀ z0 z1, Q z0 z1 → R z0 z1) (h : wX6_toldByComer a1 Q M) : wX6_toldByComer a1 R M := by
  unfold wX6_toldByComer at h ⊢
  repeat (first | with_reducible exact h | with_reducible exact hQ _ _ h | with_reducible refine And.imp (fun h => ?_) (fun h => ?_) h | with_reducible refine wX6_leaveNumber_mono (fun _ h => ?_) h | with_reducible refine wX6_at_mono (fun _ _ h => ?_) h | (intro c; replace h := h c))
theorem wX6_toldByStands_mono {a1 : Int32} {Q : Int32 → Mm → Prop} {M : Mm} {R : Int32 → Mm → Prop} (hQ : ∀ z0 z1, Q z0 z1 → R z0 z1) (h : wX6_toldByStands a1 Q M) : wX6_toldByStands a1 R M := by
  unfold wX6_toldByStands at h ⊢
  repeat (first | with_reducible exact h | with_reducible exact hQ _ _ h | with_reducible refine And.imp (fun h => ?_) (fun h => ?_) h | with_reducible refine wX6_leaveNumber_mono (fun _ h => ?_) h | with_reducible refine wX6_toldByComer_mono (fun _ _ h => ?_) h | with_reducible refine wX6_at_mono (fun _ _ h => ?_) h | (intro c; replace h := h c))
theorem wX6_toldByDone_mono {a1 : Int32} {Q : Int32 → Mm → Prop} {M : Mm} {R : Int32 → Mm → Prop} (hQ : ∀ z0 z1, Q z0 z1 → R z0 z1) (h : wX6_toldByDone a1 Q M) : wX6_toldByDone a1 R M := by
  unfold wX6_toldByDone at h ⊢
  repeat (first | with_reducible exact h | with_reducible exact hQ _ _ h | with_reducible refine And.imp (fun h => ?_) (fun h => ?_) h | with_reducible refine wX6_leaveNumber_mono (fun _ h => ?_) h | with_reducible refine wX6_toldByStands_mono (fun _ _ h => ?_) h | with_reducible refine wX6_toldByComer_mono (fun _ _ h => ?_) h | (intro c; replace h := h c))
theorem wX6_tell_mono {a1 : Int32} {Q : Int32 → Mm → Prop} {M : Mm} {R : Int32 → Mm → Prop} (hQ : ∀ z0 z1, Q z0 z1 → R z0 z1) (h : wX6_tell a1 Q M) : wX6_tell a1 R M := by
  unfold wX6_tell at h ⊢
  repeat (first | with_reducible exact h | with_reducible exact hQ _ _ h | with_reducible refine And.imp (fun h => ?_) (fun h => ?_) h | with_reducible refine wX3_has_mono (fun _ _ h => ?_) h | with_reducible refine wX6_at_mono (fun _ _ h => ?_) h | with_reducible refine wX6_toldByStands_mono (fun _ _ h => ?_) h | with_reducible refine wX6_toldByDone_mono (fun _ _ h => ?_) h | with_reducible refine wX6_toldByComer_mono (fun _ _ h => ?_) h | (intro c; replace h := h c))
theorem wX6_calledByDone_mono {Q : Int32 → Mm → Prop} {M : Mm} {R : Int32 → Mm → Prop} (hQ : ∀ z0 z1, Q z0 z1 → R z0 z1) (h : wX6_calledByDone Q M) : wX6_calledByDone R M := by
  unfold wX6_calledByDone at h ⊢
  repeat (first | with_reducible exact h | with_reducible exact hQ _ _ h | with_reducible refine And.imp (fun h => ?_) (fun h => ?_) h | with_reducible refine wX6_leaveNumber_mono (fun _ h => ?_) h | (intro c; replace h := h c))
theorem wX6_calledByLent_mono {a1 : Int32} {Q : Int32 → Mm → Prop} {M : Mm} {R : Int32 → Mm → Prop} (hQ : ∀ z0 z1, Q z0 z1 → R z0 z1) (h : wX6_calledByLent a1 Q M) : wX6_calledByLent a1 R M := by
  unfold wX6_calledByLent at h ⊢
  repeat (first | with_reducible exact h | with_reducible exact hQ _ _ h | with_reducible refine And.imp (fun h => ?_) (fun h => ?_) h | with_reducible refine wX6_leaveNumber_mono (fun _ h => ?_) h | (intro c; replace h := h c))
theorem wX6_call_mono {a1 : Int32} {Q : Int32 → Mm → Prop} {M : Mm} {R : Int32 → Mm → Prop} (hQ : ∀ z0 z1, Q z0 z1 → R z0 z1) (h : wX6_call a1 Q M) : wX6_call a1 R M := by
  unfold wX6_call at h ⊢
  repeat (first | with_reducible exact h | with_reducible exact hQ _ _ h | with_reducible refine And.imp (fun h => ?_) (fun h => ?_) h | with_reducible refine wX3_has_mono (fun _ _ h => ?_) h | with_reducible refine wX6_isKind_mono (fun _ _ h => ?_) h | with_reducible refine wX6_calledByLent_mono (fun _ _ h => ?_) h | with_reducible refine wX6_calledByDone_mono (fun _ _ h => ?_) h | (intro c; replace h := h c))
theorem wX6_as_mono {a1 : Int32} {a2 : Int32} {Q : Int32 → Mm → Prop} {M : Mm} {R : Int32 → Mm → Prop} (hQ : ∀ z0 z1, Q z0 z1 → R z0 z1) (h : wX6_as a1 a2 Q M) : wX6_as a1 a2 R M := by
  unfold wX6_as at h ⊢
  repeat (first | with_reducible exact h | with_reducible exact hQ _ _ h | with_reducible refine And.imp (fun h => ?_) (fun h => ?_) h | with_reducible refine wX3_has_mono (fun _ _ h => ?_) h | with_reducible refine wX6_isWithin_mono (fun _ _ h => ?_) h | with_reducible refine wX6_isKind_mono (fun _ _ h => ?_) h | with_reducible refine wX6_faulted_mono (fun _ _ h => ?_) h | (intro c; replace h := h c))
theorem wX6_trace_mono {Q : Int32 → Mm → Prop} {M : Mm} {R : Int32 → Mm → Prop} (hQ : ∀ z0 z1, Q z0 z1 → R z0 z1) (h : wX6_trace Q M) : wX6_trace R M := by
  unfold wX6_trace at h ⊢
  repeat (first | with_reducible exact h | with_reducible exact hQ _ _ h | with_reducible refine And.imp (fun h => ?_) (fun h => ?_) h | (intro c; replace h := h c))
theorem wX6_fault_mono {Q : Int32 → Mm → Prop} {M : Mm} {R : Int32 → Mm → Prop} (hQ : ∀ z0 z1, Q z0 z1 → R z0 z1) (h : wX6_fault Q M) : wX6_fault R M := by
  unfold wX6_fault at h ⊢
  repeat (first | with_reducible exact h | with_reducible exact hQ _ _ h | with_reducible refine And.imp (fun h => ?_) (fun h => ?_) h | (intro c; replace h := h c))
theorem wX6_many_mono {a1 : Int32} {Q : Int32 → Mm → Prop} {M : Mm} {R : Int32 → Mm → Prop} (hQ : ∀ z0 z1, Q z0 z1 → R z0 z1) (h : wX6_many a1 Q M) : wX6_many a1 R M := by
  unfold wX6_many at h ⊢
  repeat (first | with_reducible exact h | with_reducible exact hQ _ _ h | with_reducible refine And.imp (fun h => ?_) (fun h => ?_) h | with_reducible refine wX3_done_mono (fun _ _ h => ?_) h | (intro c; replace h := h c))
theorem wX7_fails_mono {a1 : Int32} {Q : Int32 → Mm → Prop} {M : Mm} {R : Int32 → Mm → Prop} (hQ : ∀ z0 z1, Q z0 z1 → R z0 z1) (h : wX7_fails a1 Q M) : wX7_fails a1 R M := by
  unfold wX7_fails at h ⊢
  repeat (first | with_reducible exact h | with_reducible exact hQ _ _ h | with_reducible refine And.imp (fun h => ?_) (fun h => ?_) h | (intro c; replace h := h c))
theorem wX7_lost_mono {a1 : Int32} {Q : Int64 → Mm → Prop} {M : Mm} {R : Int64 → Mm → Prop} (hQ : ∀ z0 z1, Q z0 z1 → R z0 z1) (h : wX7_lost a1 Q M) : wX7_lost a1 R M := by
  unfold wX7_lost at h ⊢
  repeat (first | with_reducible exact h | with_reducible exact hQ _ _ h | with_reducible refine And.imp (fun h => ?_) (fun h => ?_) h | (intro c; replace h := h c))
theorem wX7_within_mono {a0 : Int32} {a1 : Int32} {a2 : Int32} {Q : Int32 → Mm → Prop} {M : Mm} {R : Int32 → Mm → Prop} (hQ : ∀ z0 z1, Q z0 z1 → R z0 z1) (h : wX7_within a0 a1 a2 Q M) : wX7_within a0 a1 a2 R M := by
  unfold wX7_within at h ⊢
  repeat (first | with_reducible exact h | with_reducible exact hQ _ _ h | with_reducible refine And.imp (fun h => ?_) (fun h => ?_) h | (intro c; replace h := h c))
theorem bX7_common_28_mono {Q : Int64 → Mm → Prop} {J_28 : Int64 → Int64 → Mm → Prop} {x4_28 : Int64} {x6_28 : Int64} {m28 : Mm} {R : Int64 → Mm → Prop} (hQ : ∀ z0 z1, Q z0 z1 → R z0 z1) (h : bX7_common_28 Q J_28 x4_28 x6_28 m28) : bX7_common_28 R J_28 x4_28 x6_28 m28 := by
  unfold bX7_common_28 at h ⊢
  repeat (first | with_reducible exact h | with_reducible exact hQ _ _ h | with_reducible refine And.imp (fun h => ?_) (fun h => ?_) h | (intro c; replace h := h c))
theorem lX7_common_28_mono {Q : Int64 → Mm → Prop} {x4_28 : Int64} {x6_28 : Int64} {m28 : Mm} {R : Int64 → Mm → Prop} (hQ : ∀ z0 z1, Q z0 z1 → R z0 z1) (h : lX7_common_28 Q x4_28 x6_28 m28) : lX7_common_28 R x4_28 x6_28 m28 := fun I hI => h I (fun J hJ _ _ _ hb => hI J hJ _ _ _ (bX7_common_28_mono hQ hb))
theorem wX7_common_mono {a0 : Int64} {a2 : Int64} {Q : Int64 → Mm → Prop} {M : Mm} {R : Int64 → Mm → Prop} (hQ : ∀ z0 z1, Q z0 z1 → R z0 z1) (h : wX7_common a0 a2 Q M) : wX7_common a0 a2 R M := by
  unfold wX7_common at h ⊢
  repeat (first | with_reducible exact h | with_reducible exact hQ _ _ h | with_reducible refine And.imp (fun h => ?_) (fun h => ?_) h | with_reducible refine lX7_common_28_mono (fun _ _ h => ?_) h | (intro c; replace h := h c))
theorem wX7_share_mono {a1 : Int64} {a3 : Int64} {Q : Mm → Prop} {M : Mm} {R : Mm → Prop} (hQ : ∀ z0, Q z0 → R z0) (h : wX7_share a1 a3 Q M) : wX7_share a1 a3 R M := by
  unfold wX7_share at h ⊢
  repeat (first | with_reducible exact h | with_reducible exact hQ _ h | with_reducible refine And.imp (fun h => ?_) (fun h => ?_) h | with_reducible refine wX7_common_mono (fun _ _ h => ?_) h | (intro c; replace h := h c))
theorem wX7_told_mono {a1 : Int32} {Q : Int64 → Mm → Prop} {M : Mm} {R : Int64 → Mm → Prop} (hQ : ∀ z0 z1, Q z0 z1 → R z0 z1) (h : wX7_told a1 Q M) : wX7_told a1 R M := by
  unfold wX7_told at h ⊢
  repeat (first | with_reducible exact h | with_reducible exact hQ _ _ h | with_reducible refine And.imp (fun h => ?_) (fun h => ?_) h | (intro c; replace h := h c))
theorem wX7_isWhich_mono {a0 : Int32} {Q : Int32 → Mm → Prop} {M : Mm} {R : Int32 → Mm → Prop} (hQ : ∀ z0 z1, Q z0 z1 → R z0 z1) (h : wX7_isWhich a0 Q M) : wX7_isWhich a0 R M := by
  unfold wX7_isWhich at h ⊢
  repeat (first | with_reducible exact h | with_reducible exact hQ _ _ h | with_reducible refine And.imp (fun h => ?_) (fun h => ?_) h | (intro c; replace h := h c))
theorem wX7_whole_mono {a0 : Int64} {a2 : Int64} {Q : Int64 → Mm → Prop} {M : Mm} {R : Int64 → Mm → Prop} (hQ : ∀ z0 z1, Q z0 z1 → R z0 z1) (h : wX7_whole a0 a2 Q M) : wX7_whole a0 a2 R M := by
  unfold wX7_whole at h ⊢
  repeat (first | with_reducible exact h | with_reducible exact hQ _ _ h | with_reducible refine And.imp (fun h => ?_) (fun h => ?_) h | (intro c; replace h := h c))
theorem bX7_compare_17_mono {Q : Int32 → Mm → Prop} {J_17 : Int64 → Int64 → Int64 → Int64 → Int32 → Mm → Prop} {x8_17 : Int64} {x10_17 : Int64} {x12_17 : Int64} {x14_17 : Int64} {x16_17 : Int32} {m17 : Mm} {R : Int32 → Mm → Prop} (hQ : ∀ z0 z1, Q z0 z1 → R z0 z1) (h : bX7_compare_17 Q J_17 x8_17 x10_17 x12_17 x14_17 x16_17 m17) : bX7_compare_17 R J_17 x8_17 x10_17 x12_17 x14_17 x16_17 m17 := by
  unfold bX7_compare_17 at h ⊢
  repeat (first | with_reducible exact h | with_reducible exact hQ _ _ h | with_reducible refine And.imp (fun h => ?_) (fun h => ?_) h | with_reducible refine wX7_whole_mono (fun _ _ h => ?_) h | (intro c; replace h := h c))
theorem lX7_compare_17_mono {Q : Int32 → Mm → Prop} {x8_17 : Int64} {x10_17 : Int64} {x12_17 : Int64} {x14_17 : Int64} {x16_17 : Int32} {m17 : Mm} {R : Int32 → Mm → Prop} (hQ : ∀ z0 z1, Q z0 z1 → R z0 z1) (h : lX7_compare_17 Q x8_17 x10_17 x12_17 x14_17 x16_17 m17) : lX7_compare_17 R x8_17 x10_17 x12_17 x14_17 x16_17 m17 := fun I hI => h I (fun J hJ _ _ _ _ _ _ hb => hI J hJ _ _ _ _ _ _ (bX7_compare_17_mono hQ hb))
theorem wX7_compare_mono {a0 : Int64} {a2 : Int64} {a4 : Int64} {a6 : Int64} {Q : Int32 → Mm → Prop} {M : Mm} {R : Int32 → Mm → Prop} (hQ : ∀ z0 z1, Q z0 z1 → R z0 z1) (h : wX7_compare a0 a2 a4 a6 Q M) : wX7_compare a0 a2 a4 a6 R M := by
  unfold wX7_compare at h ⊢
  repeat (first | with_reducible exact h | with_reducible exact hQ _ _ h | with_reducible refine And.imp (fun h => ?_) (fun h => ?_) h | with_reducible refine lX7_compare_17_mono (fun _ _ h => ?_) h | (intro c; replace h := h c))
theorem wX7_isSheet_mono {a0 : Int32} {Q : Int32 → Mm → Prop} {M : Mm} {R : Int32 → Mm → Prop} (hQ : ∀ z0 z1, Q z0 z1 → R z0 z1) (h : wX7_isSheet a0 Q M) : wX7_isSheet a0 R M := by
  unfold wX7_isSheet at h ⊢
  repeat (first | with_reducible exact h | with_reducible exact hQ _ _ h | with_reducible refine And.imp (fun h => ?_) (fun h => ?_) h | with_reducible refine wX7_within_mono (fun _ _ h => ?_) h | (intro c; replace h := h c))
theorem wX7_isLane_mono {a0 : Int32} {Q : Int32 → Mm → Prop} {M : Mm} {R : Int32 → Mm → Prop} (hQ : ∀ z0 z1, Q z0 z1 → R z0 z1) (h : wX7_isLane a0 Q M) : wX7_isLane a0 R M := by
  unfold wX7_isLane at h ⊢
  repeat (first | with_reducible exact h | with_reducible exact hQ _ _ h | with_reducible refine And.imp (fun h => ?_) (fun h => ?_) h | with_reducible refine wX7_within_mono (fun _ _ h => ?_) h | (intro c; replace h := h c))
theorem wX7_codeAt_mono {Q : Int32 → Mm → Prop} {M : Mm} {R : Int32 → Mm → Prop} (hQ : ∀ z0 z1, Q z0 z1 → R z0 z1) (h : wX7_codeAt Q M) : wX7_codeAt R M := by
  unfold wX7_codeAt at h ⊢
  repeat (first | with_reducible exact h | with_reducible exact hQ _ _ h | with_reducible refine And.imp (fun h => ?_) (fun h => ?_) h | (intro c; replace h := h c))
theorem wX7_readsLetter_mono {a1 : Int32} {Q : Int32 → Mm → Prop} {M : Mm} {R : Int32 → Mm → Prop} (hQ : ∀ z0 z1, Q z0 z1 → R z0 z1) (h : wX7_readsLetter a1 Q M) : wX7_readsLetter a1 R M := by
  unfold wX7_readsLetter at h ⊢
  repeat (first | with_reducible exact h | with_reducible exact hQ _ _ h | with_reducible refine And.imp (fun h => ?_) (fun h => ?_) h | with_reducible refine wX7_codeAt_mono (fun _ _ h => ?_) h | (intro c; replace h := h c))
theorem bX7_readsNumber_8_mono {a1 : Int32} {a2 : Int32} {y3_8 : Int32} {Q : Int32 → Mm → Prop} {J_8 : Int32 → Mm → Prop} {x4_8 : Int32} {m8 : Mm} {R : Int32 → Mm → Prop} (hQ : ∀ z0 z1, Q z0 z1 → R z0 z1) (h : bX7_readsNumber_8 a1 a2 y3_8 Q J_8 x4_8 m8) : bX7_readsNumber_8 a1 a2 y3_8 R J_8 x4_8 m8 := by
  unfold bX7_readsNumber_8 at h ⊢
  repeat (first | with_reducible exact h | with_reducible exact hQ _ _ h | with_reducible refine And.imp (fun h => ?_) (fun h => ?_) h | with_reducible refine wX7_within_mono (fun _ _ h => ?_) h | with_reducible refine wX7_codeAt_mono (fun _ _ h => ?_) h | (intro c; replace h := h c))
theorem lX7_readsNumber_8_mono {a1 : Int32} {a2 : Int32} {y3_8 : Int32} {Q : Int32 → Mm → Prop} {x4_8 : Int32} {m8 : Mm} {R : Int32 → Mm → Prop} (hQ : ∀ z0 z1, Q z0 z1 → R z0 z1) (h : lX7_readsNumber_8 a1 a2 y3_8 Q x4_8 m8) : lX7_readsNumber_8 a1 a2 y3_8 R x4_8 m8 := fun I hI => h I (fun J hJ _ _ hb => hI J hJ _ _ (bX7_readsNumber_8_mono hQ hb))
theorem wX7_readsNumber_mono {a1 : Int32} {a2 : Int32} {Q : Int32 → Mm → Prop} {M : Mm} {R : Int32 → Mm → Prop} (hQ : ∀ z0 z1, Q z0 z1 → R z0 z1) (h : wX7_readsNumber a1 a2 Q M) : wX7_readsNumber a1 a2 R M := by
  unfold wX7_readsNumber at h ⊢
  repeat (first | with_reducible exact h | with_reducible exact hQ _ _ h | with_reducible refine And.imp (fun h => ?_) (fun h => ?_) h | with_reducible refine lX7_readsNumber_8_mono (fun _ _ h => ?_) h | (intro c; replace h := h c))
theorem bX7_readsSort_15_mono {Q : Int32 → Mm → Prop} {J_15 : Int32 → Int32 → Mm → Prop} {x1_15 : Int32} {x2_15 : Int32} {m15 : Mm} {R : Int32 → Mm → Prop} (hQ : ∀ z0 z1, Q z0 z1 → R z0 z1) (h : bX7_readsSort_15 Q J_15 x1_15 x2_15 m15) : bX7_readsSort_15 R J_15 x1_15 x2_15 m15 := by
  unfold bX7_readsSort_15 at h ⊢
  repeat (first | with_reducible exact h | with_reducible exact hQ _ _ h | with_reducible refine And.imp (fun h => ?_) (fun h => ?_) h | with_reducible refine wX7_readsNumber_mono (fun _ _ h => ?_) h | with_reducible refine wX7_readsLetter_mono (fun _ _ h => ?_) h | (intro c; replace h := h c))
theorem lX7_readsSort_15_mono {Q : Int32 → Mm → Prop} {x1_15 : Int32} {x2_15 : Int32} {m15 : Mm} {R : Int32 → Mm → Prop} (hQ : ∀ z0 z1, Q z0 z1 → R z0 z1) (h : lX7_readsSort_15 Q x1_15 x2_15 m15) : lX7_readsSort_15 R x1_15 x2_15 m15 := fun I hI => h I (fun J hJ _ _ _ hb => hI J hJ _ _ _ (bX7_readsSort_15_mono hQ hb))
theorem wX7_readsSort_mono {Q : Int32 → Mm → Prop} {M : Mm} {R : Int32 → Mm → Prop} (hQ : ∀ z0 z1, Q z0 z1 → R z0 z1) (h : wX7_readsSort Q M) : wX7_readsSort R M := by
  unfold wX7_readsSort at h ⊢
  repeat (first | with_reducible exact h | with_reducible exact hQ _ _ h | with_reducible refine And.imp (fun h => ?_) (fun h => ?_) h | with_reducible refine wX7_readsLetter_mono (fun _ _ h => ?_) h | with_reducible refine lX7_readsSort_15_mono (fun _ _ h => ?_) h | (intro c; replace h := h c))
theorem bX7_readsAll_78_mono {Q : Int32 → Mm → Prop} {J_78 : Mm → Prop} {m78 : Mm} {R : Int32 → Mm → Prop} (hQ : ∀ z0 z1, Q z0 z1 → R z0 z1) (h : bX7_readsAll_78 Q J_78 m78) : bX7_readsAll_78 R J_78 m78 := by
  unfold bX7_readsAll_78 at h ⊢
  repeat (first | with_reducible exact h | with_reducible exact hQ _ _ h | with_reducible refine And.imp (fun h => ?_) (fun h => ?_) h | with_reducible refine wX7_codeAt_mono (fun _ _ h => ?_) h | with_reducible refine wX7_readsSort_mono (fun _ _ h => ?_) h | (intro c; replace h := h c))
theorem lX7_readsAll_78_mono {Q : Int32 → Mm → Prop} {m78 : Mm} {R : Int32 → Mm → Prop} (hQ : ∀ z0 z1, Q z0 z1 → R z0 z1) (h : lX7_readsAll_78 Q m78) : lX7_readsAll_78 R m78 := fun I hI => h I (fun J hJ _ hb => hI J hJ _ (bX7_readsAll_78_mono hQ hb))
theorem wX7_readsAll_mono {Q : Int32 → Mm → Prop} {M : Mm} {R : Int32 → Mm → Prop} (hQ : ∀ z0 z1, Q z0 z1 → R z0 z1) (h : wX7_readsAll Q M) : wX7_readsAll R M := by
  unfold wX7_readsAll at h ⊢
  repeat (first | with_reducible exact h | with_reducible exact hQ _ _ h | with_reducible refine And.imp (fun h => ?_) (fun h => ?_) h | with_reducible refine wX7_readsLetter_mono (fun _ _ h => ?_) h | with_reducible refine wX7_readsNumber_mono (fun _ _ h => ?_) h | with_reducible refine lX7_readsAll_78_mono (fun _ _ h => ?_) h | (intro c; replace h := h c))
theorem bX7_place_185_mono {Q : Int32 → Mm → Prop} {J_185 : Int32 → Mm → Prop} {x6_185 : Int32} {m185 : Mm} {R : Int32 → Mm → Prop} (hQ : ∀ z0 z1, Q z0 z1 → R z0 z1) (h : bX7_place_185 Q J_185 x6_185 m185) : bX7_place_185 R J_185 x6_185 m185 := by
  unfold bX7_place_185 at h ⊢
  repeat (first | with_reducible exact h | with_reducible exact hQ _ _ h | with_reducible refine And.imp (fun h => ?_) (fun h => ?_) h | (intro c; replace h := h c))
theorem lX7_place_185_mono {Q : Int32 → Mm → Prop} {x6_185 : Int32} {m185 : Mm} {R : Int32 → Mm → Prop} (hQ : ∀ z0 z1, Q z0 z1 → R z0 z1) (h : lX7_place_185 Q x6_185 m185) : lX7_place_185 R x6_185 m185 := fun I hI => h I (fun J hJ _ _ hb => hI J hJ _ _ (bX7_place_185_mono hQ hb))
theorem wX7_place_mono {a1 : Int32} {a2 : Int32} {a3 : Int32} {a4 : Int32} {Q : Int32 → Mm → Prop} {M : Mm} {R : Int32 → Mm → Prop} (hQ : ∀ z0 z1, Q z0 z1 → R z0 z1) (h : wX7_place a1 a2 a3 a4 Q M) : wX7_place a1 a2 a3 a4 R M := by
  unfold wX7_place at h ⊢
  repeat (first | with_reducible exact h | with_reducible exact hQ _ _ h | with_reducible refine And.imp (fun h => ?_) (fun h => ?_) h | with_reducible refine wX7_isSheet_mono (fun _ _ h => ?_) h | with_reducible refine wX7_isLane_mono (fun _ _ h => ?_) h | with_reducible refine wX7_fails_mono (fun _ _ h => ?_) h | with_reducible refine wX7_readsAll_mono (fun _ _ h => ?_) h | with_reducible refine lX7_place_185_mono (fun _ _ h => ?_) h | (intro c; replace h := h c))
theorem bX7_allTwelfths_4_mono {Q : Int32 → Mm → Prop} {J_4 : Int32 → Int32 → Mm → Prop} {x1_4 : Int32} {x2_4 : Int32} {m4 : Mm} {R : Int32 → Mm → Prop} (hQ : ∀ z0 z1, Q z0 z1 → R z0 z1) (h : bX7_allTwelfths_4 Q J_4 x1_4 x2_4 m4) : bX7_allTwelfths_4 R J_4 x1_4 x2_4 m4 := by
  unfold bX7_allTwelfths_4 at h ⊢
  repeat (first | with_reducible exact h | with_reducible exact hQ _ _ h | with_reducible refine And.imp (fun h => ?_) (fun h => ?_) h | (intro c; replace h := h c))
theorem lX7_allTwelfths_4_mono {Q : Int32 → Mm → Prop} {x1_4 : Int32} {x2_4 : Int32} {m4 : Mm} {R : Int32 → Mm → Prop} (hQ : ∀ z0 z1, Q z0 z1 → R z0 z1) (h : lX7_allTwelfths_4 Q x1_4 x2_4 m4) : lX7_allTwelfths_4 R x1_4 x2_4 m4 := fun I hI => h I (fun J hJ _ _ _ hb => hI J hJ _ _ _ (bX7_allTwelfths_4_mono hQ hb))
theorem wX7_allTwelfths_mono {Q : Int32 → Mm → Prop} {M : Mm} {R : Int32 → Mm → Prop} (hQ : ∀ z0 z1, Q z0 z1 → R z0 z1) (h : wX7_allTwelfths Q M) : wX7_allTwelfths R M := by
  unfold wX7_allTwelfths at h ⊢
  repeat (first | with_reducible exact h | with_reducible exact hQ _ _ h | with_reducible refine And.imp (fun h => ?_) (fun h => ?_) h | with_reducible refine lX7_allTwelfths_4_mono (fun _ _ h => ?_) h | (intro c; replace h := h c))
theorem wX7_about_mono {a1 : Int32} {Q : Int32 → Mm → Prop} {M : Mm} {R : Int32 → Mm → Prop} (hQ : ∀ z0 z1, Q z0 z1 → R z0 z1) (h : wX7_about a1 Q M) : wX7_about a1 R M := by
  unfold wX7_about at h ⊢
  repeat (first | with_reducible exact h | with_reducible exact hQ _ _ h | with_reducible refine And.imp (fun h => ?_) (fun h => ?_) h | with_reducible refine wX7_within_mono (fun _ _ h => ?_) h | with_reducible refine wX7_allTwelfths_mono (fun _ _ h => ?_) h | (intro c; replace h := h c))
theorem wX7_isSort_mono {a1 : Int32} {Q : Int32 → Mm → Prop} {M : Mm} {R : Int32 → Mm → Prop} (hQ : ∀ z0 z1, Q z0 z1 → R z0 z1) (h : wX7_isSort a1 Q M) : wX7_isSort a1 R M := by
  unfold wX7_isSort at h ⊢
  repeat (first | with_reducible exact h | with_reducible exact hQ _ _ h | with_reducible refine And.imp (fun h => ?_) (fun h => ?_) h | (intro c; replace h := h c))
theorem wX7_toldMinutes_mono {a1 : Int32} {a2 : Int32} {a3 : Int32} {Q : Int32 → Mm → Prop} {M : Mm} {R : Int32 → Mm → Prop} (hQ : ∀ z0 z1, Q z0 z1 → R z0 z1) (h : wX7_toldMinutes a1 a2 a3 Q M) : wX7_toldMinutes a1 a2 a3 R M := by
  unfold wX7_toldMinutes at h ⊢
  repeat (first | with_reducible exact h | with_reducible exact hQ _ _ h | with_reducible refine And.imp (fun h => ?_) (fun h => ?_) h | (intro c; replace h := h c))
theorem bX7_hisBar_6_mono {a1 : Int32} {a2 : Int32} {a3 : Int32} {a4 : Int32} {Q : Int32 → Mm → Prop} {J_6 : Int32 → Int32 → Mm → Prop} {x5_6 : Int32} {x6_6 : Int32} {m6 : Mm} {R : Int32 → Mm → Prop} (hQ : ∀ z0 z1, Q z0 z1 → R z0 z1) (h : bX7_hisBar_6 a1 a2 a3 a4 Q J_6 x5_6 x6_6 m6) : bX7_hisBar_6 a1 a2 a3 a4 R J_6 x5_6 x6_6 m6 := by
  unfold bX7_hisBar_6 at h ⊢
  repeat (first | with_reducible exact h | with_reducible exact hQ _ _ h | with_reducible refine And.imp (fun h => ?_) (fun h => ?_) h | with_reducible refine wX7_toldMinutes_mono (fun _ _ h => ?_) h | (intro c; replace h := h c))
theorem lX7_hisBar_6_mono {a1 : Int32} {a2 : Int32} {a3 : Int32} {a4 : Int32} {Q : Int32 → Mm → Prop} {x5_6 : Int32} {x6_6 : Int32} {m6 : Mm} {R : Int32 → Mm → Prop} (hQ : ∀ z0 z1, Q z0 z1 → R z0 z1) (h : lX7_hisBar_6 a1 a2 a3 a4 Q x5_6 x6_6 m6) : lX7_hisBar_6 a1 a2 a3 a4 R x5_6 x6_6 m6 := fun I hI => h I (fun J hJ _ _ _ hb => hI J hJ _ _ _ (bX7_hisBar_6_mono hQ hb))
theorem wX7_hisBar_mono {a1 : Int32} {a2 : Int32} {a3 : Int32} {a4 : Int32} {Q : Int32 → Mm → Prop} {M : Mm} {R : Int32 → Mm → Prop} (hQ : ∀ z0 z1, Q z0 z1 → R z0 z1) (h : wX7_hisBar a1 a2 a3 a4 Q M) : wX7_hisBar a1 a2 a3 a4 R M := by
  unfold wX7_hisBar at h ⊢
  repeat (first | with_reducible exact h | with_reducible exact hQ _ _ h | with_reducible refine And.imp (fun h => ?_) (fun h => ?_) h | with_reducible refine lX7_hisBar_6_mono (fun _ _ h => ?_) h | (intro c; replace h := h c))
theorem wX7_ofSort_mono {a1 : Int32} {a2 : Int32} {Q : Int32 → Mm → Prop} {M : Mm} {R : Int32 → Mm → Prop} (hQ : ∀ z0 z1, Q z0 z1 → R z0 z1) (h : wX7_ofSort a1 a2 Q M) : wX7_ofSort a1 a2 R M := by
  unfold wX7_ofSort at h ⊢
  repeat (first | with_reducible exact h | with_reducible exact hQ _ _ h | with_reducible refine And.imp (fun h => ?_) (fun h => ?_) h | with_reducible refine wX7_isSort_mono (fun _ _ h => ?_) h | with_reducible refine wX7_hisBar_mono (fun _ _ h => ?_) h | (intro c; replace h := h c))
theorem wX7_bar_mono {a1 : Int32} {a2 : Int32} {Q : Int32 → Mm → Prop} {M : Mm} {R : Int32 → Mm → Prop} (hQ : ∀ z0 z1, Q z0 z1 → R z0 z1) (h : wX7_bar a1 a2 Q M) : wX7_bar a1 a2 R M := by
  unfold wX7_bar at h ⊢
  repeat (first | with_reducible exact h | with_reducible exact hQ _ _ h | with_reducible refine And.imp (fun h => ?_) (fun h => ?_) h | with_reducible refine wX7_isSort_mono (fun _ _ h => ?_) h | with_reducible refine wX7_within_mono (fun _ _ h => ?_) h | (intro c; replace h := h c))
theorem wX7_toll_mono {a1 : Int32} {Q : Int32 → Mm → Prop} {M : Mm} {R : Int32 → Mm → Prop} (hQ : ∀ z0 z1, Q z0 z1 → R z0 z1) (h : wX7_toll a1 Q M) : wX7_toll a1 R M := by
  unfold wX7_toll at h ⊢
  repeat (first | with_reducible exact h | with_reducible exact hQ _ _ h | with_reducible refine And.imp (fun h => ?_) (fun h => ?_) h | with_reducible refine wX7_within_mono (fun _ _ h => ?_) h | (intro c; replace h := h c))
theorem wX7_board_mono {a1 : Int32} {a2 : Int32} {Q : Int32 → Mm → Prop} {M : Mm} {R : Int32 → Mm → Prop} (hQ : ∀ z0 z1, Q z0 z1 → R z0 z1) (h : wX7_board a1 a2 Q M) : wX7_board a1 a2 R M := by
  unfold wX7_board at h ⊢
  repeat (first | with_reducible exact h | with_reducible exact hQ _ _ h | with_reducible refine And.imp (fun h => ?_) (fun h => ?_) h | with_reducible refine wX7_within_mono (fun _ _ h => ?_) h | (intro c; replace h := h c))
theorem bX7_layJoins_16_mono {k1_ : Nat} {x2_2 : Int32} {Q : Mm → Prop} {J_2 : Int32 → Mm → Prop} {J_16 : Int32 → Mm → Prop} {x3_16 : Int32} {m16 : Mm} {R : Mm → Prop} (hQ : ∀ z0, Q z0 → R z0) (h : bX7_layJoins_16 k1_ x2_2 Q J_2 J_16 x3_16 m16) : bX7_layJoins_16 k1_ x2_2 R J_2 J_16 x3_16 m16 := by
  unfold bX7_layJoins_16 at h ⊢
  repeat (first | with_reducible exact h | with_reducible exact hQ _ h | with_reducible refine And.imp (fun h => ?_) (fun h => ?_) h | (intro c; replace h := h c))
theorem lX7_layJoins_16_mono {k1_ : Nat} {x2_2 : Int32} {Q : Mm → Prop} {J_2 : Int32 → Mm → Prop} {x3_16 : Int32} {m16 : Mm} {R : Mm → Prop} (hQ : ∀ z0, Q z0 → R z0) (h : lX7_layJoins_16 k1_ x2_2 Q J_2 x3_16 m16) : lX7_layJoins_16 k1_ x2_2 R J_2 x3_16 m16 := fun I hI => h I (fun J hJ _ _ hb => hI J hJ _ _ (bX7_layJoins_16_mono hQ hb))
theorem bX7_layJoins_2_mono {k1_ : Nat} {Q : Mm → Prop} {J_2 : Int32 → Mm → Prop} {x2_2 : Int32} {m2 : Mm} {R : Mm → Prop} (hQ : ∀ z0, Q z0 → R z0) (h : bX7_layJoins_2 k1_ Q J_2 x2_2 m2) : bX7_layJoins_2 k1_ R J_2 x2_2 m2 := by
  unfold bX7_layJoins_2 at h ⊢
  repeat (first | with_reducible exact h | with_reducible exact hQ _ h | with_reducible refine And.imp (fun h => ?_) (fun h => ?_) h | with_reducible refine lX7_layJoins_16_mono (fun _ h => ?_) h | (intro c; replace h := h c))
theorem lX7_layJoins_2_mono {k1_ : Nat} {Q : Mm → Prop} {x2_2 : Int32} {m2 : Mm} {R : Mm → Prop} (hQ : ∀ z0, Q z0 → R z0) (h : lX7_layJoins_2 k1_ Q x2_2 m2) : lX7_layJoins_2 k1_ R x2_2 m2 := fun I hI => h I (fun J hJ _ _ hb => hI J hJ _ _ (bX7_layJoins_2_mono hQ hb))
theorem wX7_layJoins_mono {k1_ : Nat} {Q : Mm → Prop} {M : Mm} {R : Mm → Prop} (hQ : ∀ z0, Q z0 → R z0) (h : wX7_layJoins k1_ Q M) : wX7_layJoins k1_ R M := by
  unfold wX7_layJoins at h ⊢
  repeat (first | with_reducible exact h | with_reducible exact hQ _ h | with_reducible refine And.imp (fun h => ?_) (fun h => ?_) h | with_reducible refine lX7_layJoins_2_mono (fun _ h => ?_) h | (intro c; replace h := h c))
theorem bX7_layWeights_68_mono {Q : Mm → Prop} {J_2 : Int32 → Mm → Prop} {J_68 : Int32 → Mm → Prop} {x2_68 : Int32} {m68 : Mm} {R : Mm → Prop} (hQ : ∀ z0, Q z0 → R z0) (h : bX7_layWeights_68 Q J_2 J_68 x2_68 m68) : bX7_layWeights_68 R J_2 J_68 x2_68 m68 := by
  unfold bX7_layWeights_68 at h ⊢
  repeat (first | with_reducible exact h | with_reducible exact hQ _ h | with_reducible refine And.imp (fun h => ?_) (fun h => ?_) h | (intro c; replace h := h c))
theorem lX7_layWeights_68_mono {Q : Mm → Prop} {J_2 : Int32 → Mm → Prop} {x2_68 : Int32} {m68 : Mm} {R : Mm → Prop} (hQ : ∀ z0, Q z0 → R z0) (h : lX7_layWeights_68 Q J_2 x2_68 m68) : lX7_layWeights_68 R J_2 x2_68 m68 := fun I hI => h I (fun J hJ _ _ hb => hI J hJ _ _ (bX7_layWeights_68_mono hQ hb))
theorem bX7_layWeights_16_mono {a1 : Int32} {x2_2 : Int32} {Q : Mm → Prop} {J_2 : Int32 → Mm → Prop} {J_16 : Int32 → Mm → Prop} {x3_16 : Int32} {m16 : Mm} {R : Mm → Prop} (hQ : ∀ z0, Q z0 → R z0) (h : bX7_layWeights_16 a1 x2_2 Q J_2 J_16 x3_16 m16) : bX7_layWeights_16 a1 x2_2 R J_2 J_16 x3_16 m16 := by
  unfold bX7_layWeights_16 at h ⊢
  repeat (first | with_reducible exact h | with_reducible exact hQ _ h | with_reducible refine And.imp (fun h => ?_) (fun h => ?_) h | (intro c; replace h := h c))
theorem lX7_layWeights_16_mono {a1 : Int32} {x2_2 : Int32} {Q : Mm → Prop} {J_2 : Int32 → Mm → Prop} {x3_16 : Int32} {m16 : Mm} {R : Mm → Prop} (hQ : ∀ z0, Q z0 → R z0) (h : lX7_layWeights_16 a1 x2_2 Q J_2 x3_16 m16) : lX7_layWeights_16 a1 x2_2 R J_2 x3_16 m16 := fun I hI => h I (fun J hJ _ _ hb => hI J hJ _ _ (bX7_layWeights_16_mono hQ hb))
theorem bX7_layWeights_2_mono {a1 : Int32} {Q : Mm → Prop} {J_2 : Int32 → Mm → Prop} {x2_2 : Int32} {m2 : Mm} {R : Mm → Prop} (hQ : ∀ z0, Q z0 → R z0) (h : bX7_layWeights_2 a1 Q J_2 x2_2 m2) : bX7_layWeights_2 a1 R J_2 x2_2 m2 := by
  unfold bX7_layWeights_2 at h ⊢
  repeat (first | with_reducible exact h | with_reducible exact hQ _ h | with_reducible refine And.imp (fun h => ?_) (fun h => ?_) h | with_reducible refine lX7_layWeights_68_mono (fun _ h => ?_) h | with_reducible refine lX7_layWeights_16_mono (fun _ h => ?_) h | (intro c; replace h := h c))
theorem lX7_layWeights_2_mono {a1 : Int32} {Q : Mm → Prop} {x2_2 : Int32} {m2 : Mm} {R : Mm → Prop} (hQ : ∀ z0, Q z0 → R z0) (h : lX7_layWeights_2 a1 Q x2_2 m2) : lX7_layWeights_2 a1 R x2_2 m2 := fun I hI => h I (fun J hJ _ _ hb => hI J hJ _ _ (bX7_layWeights_2_mono hQ hb))
theorem wX7_layWeights_mono {a1 : Int32} {Q : Mm → Prop} {M : Mm} {R : Mm → Prop} (hQ : ∀ z0, Q z0 → R z0) (h : wX7_layWeights a1 Q M) : wX7_layWeights a1 R M := by
  unfold wX7_layWeights at h ⊢
  repeat (first | with_reducible exact h | with_reducible exact hQ _ h | with_reducible refine And.imp (fun h => ?_) (fun h => ?_) h | with_reducible refine lX7_layWeights_2_mono (fun _ h => ?_) h | (intro c; replace h := h c))
theorem bX7_layRun_7_mono {k1_ : Nat} {Q : Mm → Prop} {J_7 : Int32 → Mm → Prop} {x2_7 : Int32} {m7 : Mm} {R : Mm → Prop} (hQ : ∀ z0, Q z0 → R z0) (h : bX7_layRun_7 k1_ Q J_7 x2_7 m7) : bX7_layRun_7 k1_ R J_7 x2_7 m7 := by
  unfold bX7_layRun_7 at h ⊢
  repeat (first | with_reducible exact h | with_reducible exact hQ _ h | with_reducible refine And.imp (fun h => ?_) (fun h => ?_) h | with_reducible refine wX7_layWeights_mono (fun _ h => ?_) h | (intro c; replace h := h c))
theorem lX7_layRun_7_mono {k1_ : Nat} {Q : Mm → Prop} {x2_7 : Int32} {m7 : Mm} {R : Mm → Prop} (hQ : ∀ z0, Q z0 → R z0) (h : lX7_layRun_7 k1_ Q x2_7 m7) : lX7_layRun_7 k1_ R x2_7 m7 := fun I hI => h I (fun J hJ _ _ hb => hI J hJ _ _ (bX7_layRun_7_mono hQ hb))
theorem wX7_layRun_mono {k1_ : Nat} {Q : Mm → Prop} {M : Mm} {R : Mm → Prop} (hQ : ∀ z0, Q z0 → R z0) (h : wX7_layRun k1_ Q M) : wX7_layRun k1_ R M := by
  unfold wX7_layRun at h ⊢
  repeat (first | with_reducible exact h | with_reducible exact hQ _ h | with_reducible refine And.imp (fun h => ?_) (fun h => ?_) h | with_reducible refine wX7_layJoins_mono (fun _ h => ?_) h | with_reducible refine lX7_layRun_7_mono (fun _ h => ?_) h | (intro c; replace h := h c))
theorem bX7_allWeights_4_mono {Q : Int64 → Mm → Prop} {J_4 : Int64 → Int32 → Mm → Prop} {x1_4 : Int64} {x3_4 : Int32} {m4 : Mm} {R : Int64 → Mm → Prop} (hQ : ∀ z0 z1, Q z0 z1 → R z0 z1) (h : bX7_allWeights_4 Q J_4 x1_4 x3_4 m4) : bX7_allWeights_4 R J_4 x1_4 x3_4 m4 := by
  unfold bX7_allWeights_4 at h ⊢
  repeat (first | with_reducible exact h | with_reducible exact hQ _ _ h | with_reducible refine And.imp (fun h => ?_) (fun h => ?_) h | (intro c; replace h := h c))
theorem lX7_allWeights_4_mono {Q : Int64 → Mm → Prop} {x1_4 : Int64} {x3_4 : Int32} {m4 : Mm} {R : Int64 → Mm → Prop} (hQ : ∀ z0 z1, Q z0 z1 → R z0 z1) (h : lX7_allWeights_4 Q x1_4 x3_4 m4) : lX7_allWeights_4 R x1_4 x3_4 m4 := fun I hI => h I (fun J hJ _ _ _ hb => hI J hJ _ _ _ (bX7_allWeights_4_mono hQ hb))
theorem wX7_allWeights_mono {Q : Int64 → Mm → Prop} {M : Mm} {R : Int64 → Mm → Prop} (hQ : ∀ z0 z1, Q z0 z1 → R z0 z1) (h : wX7_allWeights Q M) : wX7_allWeights R M := by
  unfold wX7_allWeights at h ⊢
  repeat (first | with_reducible exact h | with_reducible exact hQ _ _ h | with_reducible refine And.imp (fun h => ?_) (fun h => ?_) h | with_reducible refine lX7_allWeights_4_mono (fun _ _ h => ?_) h | (intro c; replace h := h c))
theorem bX7_meanWeights_4_mono {Q : Int64 → Mm → Prop} {J_4 : Int64 → Int32 → Mm → Prop} {x1_4 : Int64} {x3_4 : Int32} {m4 : Mm} {R : Int64 → Mm → Prop} (hQ : ∀ z0 z1, Q z0 z1 → R z0 z1) (h : bX7_meanWeights_4 Q J_4 x1_4 x3_4 m4) : bX7_meanWeights_4 R J_4 x1_4 x3_4 m4 := by
  unfold bX7_meanWeights_4 at h ⊢
  repeat (first | with_reducible exact h | with_reducible exact hQ _ _ h | with_reducible refine And.imp (fun h => ?_) (fun h => ?_) h | (intro c; replace h := h c))
theorem lX7_meanWeights_4_mono {Q : Int64 → Mm → Prop} {x1_4 : Int64} {x3_4 : Int32} {m4 : Mm} {R : Int64 → Mm → Prop} (hQ : ∀ z0 z1, Q z0 z1 → R z0 z1) (h : lX7_meanWeights_4 Q x1_4 x3_4 m4) : lX7_meanWeights_4 R x1_4 x3_4 m4 := fun I hI => h I (fun J hJ _ _ _ hb => hI J hJ _ _ _ (bX7_meanWeights_4_mono hQ hb))
theorem wX7_meanWeights_mono {Q : Int64 → Mm → Prop} {M : Mm} {R : Int64 → Mm → Prop} (hQ : ∀ z0 z1, Q z0 z1 → R z0 z1) (h : wX7_meanWeights Q M) : wX7_meanWeights R M := by
  unfold wX7_meanWeights at h ⊢
  repeat (first | with_reducible exact h | with_reducible exact hQ _ _ h | with_reducible refine And.imp (fun h => ?_) (fun h => ?_) h | with_reducible refine lX7_meanWeights_4_mono (fun _ _ h => ?_) h | (intro c; replace h := h c))
theorem wX7_metAt_mono {a1 : Int32} {Q : Int64 → Mm → Prop} {M : Mm} {R : Int64 → Mm → Prop} (hQ : ∀ z0 z1, Q z0 z1 → R z0 z1) (h : wX7_metAt a1 Q M) : wX7_metAt a1 R M := by
  unfold wX7_metAt at h ⊢
  repeat (first | with_reducible exact h | with_reducible exact hQ _ _ h | with_reducible refine And.imp (fun h => ?_) (fun h => ?_) h | (intro c; replace h := h c))
theorem wX7_often_mono {a1 : Int32} {a2 : Int32} {Q : Int64 → Mm → Prop} {M : Mm} {R : Int64 → Mm → Prop} (hQ : ∀ z0 z1, Q z0 z1 → R z0 z1) (h : wX7_often a1 a2 Q M) : wX7_often a1 a2 R M := by
  unfold wX7_often at h ⊢
  repeat (first | with_reducible exact h | with_reducible exact hQ _ _ h | with_reducible refine And.imp (fun h => ?_) (fun h => ?_) h | with_reducible refine wX7_within_mono (fun _ _ h => ?_) h | with_reducible refine wX7_isWhich_mono (fun _ _ h => ?_) h | with_reducible refine wX7_layRun_mono (fun _ h => ?_) h | with_reducible refine wX7_allWeights_mono (fun _ _ h => ?_) h | with_reducible refine wX7_share_mono (fun _ h => ?_) h | with_reducible refine wX7_told_mono (fun _ _ h => ?_) h | (intro c; replace h := h c))
theorem wX7_mean_mono {a1 : Int32} {Q : Int64 → Mm → Prop} {M : Mm} {R : Int64 → Mm → Prop} (hQ : ∀ z0 z1, Q z0 z1 → R z0 z1) (h : wX7_mean a1 Q M) : wX7_mean a1 R M := by
  unfold wX7_mean at h ⊢
  repeat (first | with_reducible exact h | with_reducible exact hQ _ _ h | with_reducible refine And.imp (fun h => ?_) (fun h => ?_) h | with_reducible refine wX7_isWhich_mono (fun _ _ h => ?_) h | with_reducible refine wX7_layRun_mono (fun _ h => ?_) h | with_reducible refine wX7_meanWeights_mono (fun _ _ h => ?_) h | with_reducible refine wX7_allWeights_mono (fun _ _ h => ?_) h | with_reducible refine wX7_share_mono (fun _ h => ?_) h | with_reducible refine wX7_told_mono (fun _ _ h => ?_) h | (intro c; replace h := h c))
theorem bX7_on_37_mono {a2 : Int32} {Q : Int64 → Mm → Prop} {J_37 : Int64 → Int32 → Mm → Prop} {x3_37 : Int64} {x5_37 : Int32} {m37 : Mm} {R : Int64 → Mm → Prop} (hQ : ∀ z0 z1, Q z0 z1 → R z0 z1) (h : bX7_on_37 a2 Q J_37 x3_37 x5_37 m37) : bX7_on_37 a2 R J_37 x3_37 x5_37 m37 := by
  unfold bX7_on_37 at h ⊢
  repeat (first | with_reducible exact h | with_reducible exact hQ _ _ h | with_reducible refine And.imp (fun h => ?_) (fun h => ?_) h | with_reducible refine wX7_allWeights_mono (fun _ _ h => ?_) h | with_reducible refine wX7_share_mono (fun _ h => ?_) h | with_reducible refine wX7_told_mono (fun _ _ h => ?_) h | with_reducible refine wX7_metAt_mono (fun _ _ h => ?_) h | (intro c; replace h := h c))
theorem lX7_on_37_mono {a2 : Int32} {Q : Int64 → Mm → Prop} {x3_37 : Int64} {x5_37 : Int32} {m37 : Mm} {R : Int64 → Mm → Prop} (hQ : ∀ z0 z1, Q z0 z1 → R z0 z1) (h : lX7_on_37 a2 Q x3_37 x5_37 m37) : lX7_on_37 a2 R x3_37 x5_37 m37 := fun I hI => h I (fun J hJ _ _ _ hb => hI J hJ _ _ _ (bX7_on_37_mono hQ hb))
theorem wX7_on_mono {a1 : Int32} {a2 : Int32} {Q : Int64 → Mm → Prop} {M : Mm} {R : Int64 → Mm → Prop} (hQ : ∀ z0 z1, Q z0 z1 → R z0 z1) (h : wX7_on a1 a2 Q M) : wX7_on a1 a2 R M := by
  unfold wX7_on at h ⊢
  repeat (first | with_reducible exact h | with_reducible exact hQ _ _ h | with_reducible refine And.imp (fun h => ?_) (fun h => ?_) h | with_reducible refine wX7_isSort_mono (fun _ _ h => ?_) h | with_reducible refine wX7_isWhich_mono (fun _ _ h => ?_) h | with_reducible refine wX7_layRun_mono (fun _ h => ?_) h | with_reducible refine lX7_on_37_mono (fun _ _ h => ?_) h | (intro c; replace h := h c))
theorem bX7_less_58_mono {a1 : Int32} {a2 : Int32} {Q : Int64 → Mm → Prop} {J_58 : Int32 → Mm → Prop} {x3_58 : Int32} {m58 : Mm} {R : Int64 → Mm → Prop} (hQ : ∀ z0 z1, Q z0 z1 → R z0 z1) (h : bX7_less_58 a1 a2 Q J_58 x3_58 m58) : bX7_less_58 a1 a2 R J_58 x3_58 m58 := by
  unfold bX7_less_58 at h ⊢
  repeat (first | with_reducible exact h | with_reducible exact hQ _ _ h | with_reducible refine And.imp (fun h => ?_) (fun h => ?_) h | with_reducible refine wX7_told_mono (fun _ _ h => ?_) h | with_reducible refine wX7_share_mono (fun _ h => ?_) h | (intro c; replace h := h c))
theorem lX7_less_58_mono {a1 : Int32} {a2 : Int32} {Q : Int64 → Mm → Prop} {x3_58 : Int32} {m58 : Mm} {R : Int64 → Mm → Prop} (hQ : ∀ z0 z1, Q z0 z1 → R z0 z1) (h : lX7_less_58 a1 a2 Q x3_58 m58) : lX7_less_58 a1 a2 R x3_58 m58 := fun I hI => h I (fun J hJ _ _ hb => hI J hJ _ _ (bX7_less_58_mono hQ hb))
theorem wX7_less_mono {a1 : Int32} {a2 : Int32} {Q : Int64 → Mm → Prop} {M : Mm} {R : Int64 → Mm → Prop} (hQ : ∀ z0 z1, Q z0 z1 → R z0 z1) (h : wX7_less a1 a2 Q M) : wX7_less a1 a2 R M := by
  unfold wX7_less at h ⊢
  repeat (first | with_reducible exact h | with_reducible exact hQ _ _ h | with_reducible refine And.imp (fun h => ?_) (fun h => ?_) h | with_reducible refine wX7_within_mono (fun _ _ h => ?_) h | with_reducible refine wX7_isWhich_mono (fun _ _ h => ?_) h | with_reducible refine wX7_layRun_mono (fun _ h => ?_) h | with_reducible refine wX7_share_mono (fun _ h => ?_) h | with_reducible refine lX7_less_58_mono (fun _ _ h => ?_) h | (intro c; replace h := h c))
theorem bX7_after_212_mono {a1 : Int32} {a3 : Int32} {a4 : Int32} {x5_95 : Int64} {x7_95 : Int32} {Q : Int64 → Mm → Prop} {J_58 : Int32 → Mm → Prop} {J_95 : Int64 → Int32 → Mm → Prop} {J_104 : Int32 → Mm → Prop} {J_212 : Int32 → Mm → Prop} {x8_212 : Int32} {m212 : Mm} {R : Int64 → Mm → Prop} (hQ : ∀ z0 z1, Q z0 z1 → R z0 z1) (h : bX7_after_212 a1 a3 a4 x5_95 x7_95 Q J_58 J_95 J_104 J_212 x8_212 m212) : bX7_after_212 a1 a3 a4 x5_95 x7_95 R J_58 J_95 J_104 J_212 x8_212 m212 := by
  unfold bX7_after_212 at h ⊢
  repeat (first | with_reducible exact h | with_reducible exact hQ _ _ h | with_reducible refine And.imp (fun h => ?_) (fun h => ?_) h | (intro c; replace h := h c))
theorem lX7_after_212_mono {a1 : Int32} {a3 : Int32} {a4 : Int32} {x5_95 : Int64} {x7_95 : Int32} {Q : Int64 → Mm → Prop} {J_58 : Int32 → Mm → Prop} {J_95 : Int64 → Int32 → Mm → Prop} {J_104 : Int32 → Mm → Prop} {x8_212 : Int32} {m212 : Mm} {R : Int64 → Mm → Prop} (hQ : ∀ z0 z1, Q z0 z1 → R z0 z1) (h : lX7_after_212 a1 a3 a4 x5_95 x7_95 Q J_58 J_95 J_104 x8_212 m212) : lX7_after_212 a1 a3 a4 x5_95 x7_95 R J_58 J_95 J_104 x8_212 m212 := fun I hI => h I (fun J hJ _ _ hb => hI J hJ _ _ (bX7_after_212_mono hQ hb))
theorem bX7_after_104_mono {a1 : Int32} {a3 : Int32} {a4 : Int32} {x5_95 : Int64} {x7_95 : Int32} {Q : Int64 → Mm → Prop} {J_58 : Int32 → Mm → Prop} {J_95 : Int64 → Int32 → Mm → Prop} {J_104 : Int32 → Mm → Prop} {x8_104 : Int32} {m104 : Mm} {R : Int64 → Mm → Prop} (hQ : ∀ z0 z1, Q z0 z1 → R z0 z1) (h : bX7_after_104 a1 a3 a4 x5_95 x7_95 Q J_58 J_95 J_104 x8_104 m104) : bX7_after_104 a1 a3 a4 x5_95 x7_95 R J_58 J_95 J_104 x8_104 m104 := by
  unfold bX7_after_104 at h ⊢
  repeat (first | with_reducible exact h | with_reducible exact hQ _ _ h | with_reducible refine And.imp (fun h => ?_) (fun h => ?_) h | with_reducible refine lX7_after_212_mono (fun _ _ h => ?_) h | (intro c; replace h := h c))
theorem lX7_after_104_mono {a1 : Int32} {a3 : Int32} {a4 : Int32} {x5_95 : Int64} {x7_95 : Int32} {Q : Int64 → Mm → Prop} {J_58 : Int32 → Mm → Prop} {J_95 : Int64 → Int32 → Mm → Prop} {x8_104 : Int32} {m104 : Mm} {R : Int64 → Mm → Prop} (hQ : ∀ z0 z1, Q z0 z1 → R z0 z1) (h : lX7_after_104 a1 a3 a4 x5_95 x7_95 Q J_58 J_95 x8_104 m104) : lX7_after_104 a1 a3 a4 x5_95 x7_95 R J_58 J_95 x8_104 m104 := fun I hI => h I (fun J hJ _ _ hb => hI J hJ _ _ (bX7_after_104_mono hQ hb))
theorem bX7_after_95_mono {a1 : Int32} {a3 : Int32} {a4 : Int32} {Q : Int64 → Mm → Prop} {J_58 : Int32 → Mm → Prop} {J_95 : Int64 → Int32 → Mm → Prop} {x5_95 : Int64} {x7_95 : Int32} {m95 : Mm} {R : Int64 → Mm → Prop} (hQ : ∀ z0 z1, Q z0 z1 → R z0 z1) (h : bX7_after_95 a1 a3 a4 Q J_58 J_95 x5_95 x7_95 m95) : bX7_after_95 a1 a3 a4 R J_58 J_95 x5_95 x7_95 m95 := by
  unfold bX7_after_95 at h ⊢
  repeat (first | with_reducible exact h | with_reducible exact hQ _ _ h | with_reducible refine And.imp (fun h => ?_) (fun h => ?_) h | with_reducible refine wX7_share_mono (fun _ h => ?_) h | with_reducible refine wX7_told_mono (fun _ _ h => ?_) h | with_reducible refine lX7_after_104_mono (fun _ _ h => ?_) h | (intro c; replace h := h c))
theorem lX7_after_95_mono {a1 : Int32} {a3 : Int32} {a4 : Int32} {Q : Int64 → Mm → Prop} {J_58 : Int32 → Mm → Prop} {x5_95 : Int64} {x7_95 : Int32} {m95 : Mm} {R : Int64 → Mm → Prop} (hQ : ∀ z0 z1, Q z0 z1 → R z0 z1) (h : lX7_after_95 a1 a3 a4 Q J_58 x5_95 x7_95 m95) : lX7_after_95 a1 a3 a4 R J_58 x5_95 x7_95 m95 := fun I hI => h I (fun J hJ _ _ _ hb => hI J hJ _ _ _ (bX7_after_95_mono hQ hb))
theorem bX7_after_58_mono {a1 : Int32} {a2 : Int32} {a3 : Int32} {a4 : Int32} {Q : Int64 → Mm → Prop} {J_58 : Int32 → Mm → Prop} {x5_58 : Int32} {m58 : Mm} {R : Int64 → Mm → Prop} (hQ : ∀ z0 z1, Q z0 z1 → R z0 z1) (h : bX7_after_58 a1 a2 a3 a4 Q J_58 x5_58 m58) : bX7_after_58 a1 a2 a3 a4 R J_58 x5_58 m58 := by
  unfold bX7_after_58 at h ⊢
  repeat (first | with_reducible exact h | with_reducible exact hQ _ _ h | with_reducible refine And.imp (fun h => ?_) (fun h => ?_) h | with_reducible refine lX7_after_95_mono (fun _ _ h => ?_) h | (intro c; replace h := h c))
theorem lX7_after_58_mono {a1 : Int32} {a2 : Int32} {a3 : Int32} {a4 : Int32} {Q : Int64 → Mm → Prop} {x5_58 : Int32} {m58 : Mm} {R : Int64 → Mm → Prop} (hQ : ∀ z0 z1, Q z0 z1 → R z0 z1) (h : lX7_after_58 a1 a2 a3 a4 Q x5_58 m58) : lX7_after_58 a1 a2 a3 a4 R x5_58 m58 := fun I hI => h I (fun J hJ _ _ hb => hI J hJ _ _ (bX7_after_58_mono hQ hb))
theorem wX7_after_mono {a1 : Int32} {a2 : Int32} {a3 : Int32} {a4 : Int32} {Q : Int64 → Mm → Prop} {M : Mm} {R : Int64 → Mm → Prop} (hQ : ∀ z0 z1, Q z0 z1 → R z0 z1) (h : wX7_after a1 a2 a3 a4 Q M) : wX7_after a1 a2 a3 a4 R M := by
  unfold wX7_after at h ⊢
  repeat (first | with_reducible exact h | with_reducible exact hQ _ _ h | with_reducible refine And.imp (fun h => ?_) (fun h => ?_) h | with_reducible refine wX7_within_mono (fun _ _ h => ?_) h | with_reducible refine wX7_isWhich_mono (fun _ _ h => ?_) h | with_reducible refine wX7_layRun_mono (fun _ h => ?_) h | with_reducible refine lX7_after_58_mono (fun _ _ h => ?_) h | (intro c; replace h := h c))
theorem wX7_minutes_mono {a1 : Int32} {a2 : Int32} {Q : Int64 → Mm → Prop} {M : Mm} {R : Int64 → Mm → Prop} (hQ : ∀ z0 z1, Q z0 z1 → R z0 z1) (h : wX7_minutes a1 a2 Q M) : wX7_minutes a1 a2 R M := by
  unfold wX7_minutes at h ⊢
  repeat (first | with_reducible exact h | with_reducible exact hQ _ _ h | with_reducible refine And.imp (fun h => ?_) (fun h => ?_) h | with_reducible refine wX7_within_mono (fun _ _ h => ?_) h | with_reducible refine wX7_toldMinutes_mono (fun _ _ h => ?_) h | with_reducible refine wX7_share_mono (fun _ h => ?_) h | with_reducible refine wX7_told_mono (fun _ _ h => ?_) h | (intro c; replace h := h c))
theorem bX7_layGain_25_mono {k1_ : Nat} {x2_10 : Int64} {x4_10 : Int32} {Q : Mm → Prop} {J_10 : Int64 → Int32 → Mm → Prop} {J_25 : Int64 → Int32 → Mm → Prop} {x5_25 : Int64} {x7_25 : Int32} {m25 : Mm} {R : Mm → Prop} (hQ : ∀ z0, Q z0 → R z0) (h : bX7_layGain_25 k1_ x2_10 x4_10 Q J_10 J_25 x5_25 x7_25 m25) : bX7_layGain_25 k1_ x2_10 x4_10 R J_10 J_25 x5_25 x7_25 m25 := by
  unfold bX7_layGain_25 at h ⊢
  repeat (first | with_reducible exact h | with_reducible exact hQ _ h | with_reducible refine And.imp (fun h => ?_) (fun h => ?_) h | with_reducible refine wX7_metAt_mono (fun _ _ h => ?_) h | (intro c; replace h := h c))
theorem lX7_layGain_25_mono {k1_ : Nat} {x2_10 : Int64} {x4_10 : Int32} {Q : Mm → Prop} {J_10 : Int64 → Int32 → Mm → Prop} {x5_25 : Int64} {x7_25 : Int32} {m25 : Mm} {R : Mm → Prop} (hQ : ∀ z0, Q z0 → R z0) (h : lX7_layGain_25 k1_ x2_10 x4_10 Q J_10 x5_25 x7_25 m25) : lX7_layGain_25 k1_ x2_10 x4_10 R J_10 x5_25 x7_25 m25 := fun I hI => h I (fun J hJ _ _ _ hb => hI J hJ _ _ _ (bX7_layGain_25_mono hQ hb))
theorem bX7_layGain_10_mono {k1_ : Nat} {Q : Mm → Prop} {J_10 : Int64 → Int32 → Mm → Prop} {x2_10 : Int64} {x4_10 : Int32} {m10 : Mm} {R : Mm → Prop} (hQ : ∀ z0, Q z0 → R z0) (h : bX7_layGain_10 k1_ Q J_10 x2_10 x4_10 m10) : bX7_layGain_10 k1_ R J_10 x2_10 x4_10 m10 := by
  unfold bX7_layGain_10 at h ⊢
  repeat (first | with_reducible exact h | with_reducible exact hQ _ h | with_reducible refine And.imp (fun h => ?_) (fun h => ?_) h | with_reducible refine wX7_meanWeights_mono (fun _ _ h => ?_) h | with_reducible refine wX7_allWeights_mono (fun _ _ h => ?_) h | with_reducible refine wX7_share_mono (fun _ h => ?_) h | with_reducible refine lX7_layGain_25_mono (fun _ h => ?_) h | (intro c; replace h := h c))
theorem lX7_layGain_10_mono {k1_ : Nat} {Q : Mm → Prop} {x2_10 : Int64} {x4_10 : Int32} {m10 : Mm} {R : Mm → Prop} (hQ : ∀ z0, Q z0 → R z0) (h : lX7_layGain_10 k1_ Q x2_10 x4_10 m10) : lX7_layGain_10 k1_ R x2_10 x4_10 m10 := fun I hI => h I (fun J hJ _ _ _ hb => hI J hJ _ _ _ (bX7_layGain_10_mono hQ hb))
theorem wX7_layGain_mono {k1_ : Nat} {Q : Mm → Prop} {M : Mm} {R : Mm → Prop} (hQ : ∀ z0, Q z0 → R z0) (h : wX7_layGain k1_ Q M) : wX7_layGain k1_ R M := by
  unfold wX7_layGain at h ⊢
  repeat (first | with_reducible exact h | with_reducible exact hQ _ h | with_reducible refine And.imp (fun h => ?_) (fun h => ?_) h | with_reducible refine wX7_layRun_mono (fun _ h => ?_) h | with_reducible refine lX7_layGain_10_mono (fun _ h => ?_) h | (intro c; replace h := h c))
theorem wX7_gain_mono {a1 : Int32} {Q : Int64 → Mm → Prop} {M : Mm} {R : Int64 → Mm → Prop} (hQ : ∀ z0 z1, Q z0 z1 → R z0 z1) (h : wX7_gain a1 Q M) : wX7_gain a1 R M := by
  unfold wX7_gain at h ⊢
  repeat (first | with_reducible exact h | with_reducible exact hQ _ _ h | with_reducible refine And.imp (fun h => ?_) (fun h => ?_) h | with_reducible refine wX7_isWhich_mono (fun _ _ h => ?_) h | with_reducible refine wX7_layGain_mono (fun _ h => ?_) h | with_reducible refine wX7_told_mono (fun _ _ h => ?_) h | (intro c; replace h := h c))
theorem wX7_allRows_mono {Q : Int32 → Mm → Prop} {M : Mm} {R : Int32 → Mm → Prop} (hQ : ∀ z0 z1, Q z0 z1 → R z0 z1) (h : wX7_allRows Q M) : wX7_allRows R M := by
  unfold wX7_allRows at h ⊢
  repeat (first | with_reducible exact h | with_reducible exact hQ _ _ h | with_reducible refine And.imp (fun h => ?_) (fun h => ?_) h | (intro c; replace h := h c))
theorem bX7_layRow_9_mono {Q : Mm → Prop} {J_9 : Int32 → Int32 → Mm → Prop} {x2_9 : Int32} {x3_9 : Int32} {m9 : Mm} {R : Mm → Prop} (hQ : ∀ z0, Q z0 → R z0) (h : bX7_layRow_9 Q J_9 x2_9 x3_9 m9) : bX7_layRow_9 R J_9 x2_9 x3_9 m9 := by
  unfold bX7_layRow_9 at h ⊢
  repeat (first | with_reducible exact h | with_reducible exact hQ _ h | with_reducible refine And.imp (fun h => ?_) (fun h => ?_) h | (intro c; replace h := h c))
theorem lX7_layRow_9_mono {Q : Mm → Prop} {x2_9 : Int32} {x3_9 : Int32} {m9 : Mm} {R : Mm → Prop} (hQ : ∀ z0, Q z0 → R z0) (h : lX7_layRow_9 Q x2_9 x3_9 m9) : lX7_layRow_9 R x2_9 x3_9 m9 := fun I hI => h I (fun J hJ _ _ _ hb => hI J hJ _ _ _ (bX7_layRow_9_mono hQ hb))
theorem wX7_layRow_mono {a1 : Int32} {Q : Mm → Prop} {M : Mm} {R : Mm → Prop} (hQ : ∀ z0, Q z0 → R z0) (h : wX7_layRow a1 Q M) : wX7_layRow a1 R M := by
  unfold wX7_layRow at h ⊢
  repeat (first | with_reducible exact h | with_reducible exact hQ _ h | with_reducible refine And.imp (fun h => ?_) (fun h => ?_) h | with_reducible refine lX7_layRow_9_mono (fun _ h => ?_) h | (intro c; replace h := h c))
theorem bX7_findBest_64_mono {x5_7 : Int32} {y1_64 : Int64} {y3_64 : Int64} {Q : Mm → Prop} {J_7 : Int64 → Int64 → Int32 → Mm → Prop} {J_64 : Int32 → Mm → Prop} {x6_64 : Int32} {m64 : Mm} {R : Mm → Prop} (hQ : ∀ z0, Q z0 → R z0) (h : bX7_findBest_64 x5_7 y1_64 y3_64 Q J_7 J_64 x6_64 m64) : bX7_findBest_64 x5_7 y1_64 y3_64 R J_7 J_64 x6_64 m64 := by
  unfold bX7_findBest_64 at h ⊢
  repeat (first | with_reducible exact h | with_reducible exact hQ _ h | with_reducible refine And.imp (fun h => ?_) (fun h => ?_) h | (intro c; replace h := h c))
theorem lX7_findBest_64_mono {x5_7 : Int32} {y1_64 : Int64} {y3_64 : Int64} {Q : Mm → Prop} {J_7 : Int64 → Int64 → Int32 → Mm → Prop} {x6_64 : Int32} {m64 : Mm} {R : Mm → Prop} (hQ : ∀ z0, Q z0 → R z0) (h : lX7_findBest_64 x5_7 y1_64 y3_64 Q J_7 x6_64 m64) : lX7_findBest_64 x5_7 y1_64 y3_64 R J_7 x6_64 m64 := fun I hI => h I (fun J hJ _ _ hb => hI J hJ _ _ (bX7_findBest_64_mono hQ hb))
theorem bX7_findBest_7_mono {Q : Mm → Prop} {J_7 : Int64 → Int64 → Int32 → Mm → Prop} {x1_7 : Int64} {x3_7 : Int64} {x5_7 : Int32} {m7 : Mm} {R : Mm → Prop} (hQ : ∀ z0, Q z0 → R z0) (h : bX7_findBest_7 Q J_7 x1_7 x3_7 x5_7 m7) : bX7_findBest_7 R J_7 x1_7 x3_7 x5_7 m7 := by
  unfold bX7_findBest_7 at h ⊢
  repeat (first | with_reducible exact h | with_reducible exact hQ _ h | with_reducible refine And.imp (fun h => ?_) (fun h => ?_) h | with_reducible refine wX7_allRows_mono (fun _ _ h => ?_) h | with_reducible refine wX7_layRow_mono (fun _ h => ?_) h | with_reducible refine wX7_layGain_mono (fun _ h => ?_) h | with_reducible refine lX7_findBest_64_mono (fun _ h => ?_) h | with_reducible refine wX7_compare_mono (fun _ _ h => ?_) h | (intro c; replace h := h c))
theorem lX7_findBest_7_mono {Q : Mm → Prop} {x1_7 : Int64} {x3_7 : Int64} {x5_7 : Int32} {m7 : Mm} {R : Mm → Prop} (hQ : ∀ z0, Q z0 → R z0) (h : lX7_findBest_7 Q x1_7 x3_7 x5_7 m7) : lX7_findBest_7 R x1_7 x3_7 x5_7 m7 := fun I hI => h I (fun J hJ _ _ _ _ hb => hI J hJ _ _ _ _ (bX7_findBest_7_mono hQ hb))
theorem wX7_findBest_mono {Q : Mm → Prop} {M : Mm} {R : Mm → Prop} (hQ : ∀ z0, Q z0 → R z0) (h : wX7_findBest Q M) : wX7_findBest R M := by
  unfold wX7_findBest at h ⊢
  repeat (first | with_reducible exact h | with_reducible exact hQ _ h | with_reducible refine And.imp (fun h => ?_) (fun h => ?_) h | with_reducible refine lX7_findBest_7_mono (fun _ h => ?_) h | (intro c; replace h := h c))
theorem wX7_best_mono {a1 : Int32} {Q : Int32 → Mm → Prop} {M : Mm} {R : Int32 → Mm → Prop} (hQ : ∀ z0 z1, Q z0 z1 → R z0 z1) (h : wX7_best a1 Q M) : wX7_best a1 R M := by
  unfold wX7_best at h ⊢
  repeat (first | with_reducible exact h | with_reducible exact hQ _ _ h | with_reducible refine And.imp (fun h => ?_) (fun h => ?_) h | with_reducible refine wX7_isSort_mono (fun _ _ h => ?_) h | with_reducible refine wX7_findBest_mono (fun _ h => ?_) h | (intro c; replace h := h c))
theorem bX7_bars_35_mono {a1 : Int32} {Q : Int32 → Mm → Prop} {J_35 : Int32 → Int32 → Mm → Prop} {x2_35 : Int32} {x3_35 : Int32} {m35 : Mm} {R : Int32 → Mm → Prop} (hQ : ∀ z0 z1, Q z0 z1 → R z0 z1) (h : bX7_bars_35 a1 Q J_35 x2_35 x3_35 m35) : bX7_bars_35 a1 R J_35 x2_35 x3_35 m35 := by
  unfold bX7_bars_35 at h ⊢
  repeat (first | with_reducible exact h | with_reducible exact hQ _ _ h | with_reducible refine And.imp (fun h => ?_) (fun h => ?_) h | with_reducible refine wX7_hisBar_mono (fun _ _ h => ?_) h | (intro c; replace h := h c))
theorem lX7_bars_35_mono {a1 : Int32} {Q : Int32 → Mm → Prop} {x2_35 : Int32} {x3_35 : Int32} {m35 : Mm} {R : Int32 → Mm → Prop} (hQ : ∀ z0 z1, Q z0 z1 → R z0 z1) (h : lX7_bars_35 a1 Q x2_35 x3_35 m35) : lX7_bars_35 a1 R x2_35 x3_35 m35 := fun I hI => h I (fun J hJ _ _ _ hb => hI J hJ _ _ _ (bX7_bars_35_mono hQ hb))
theorem wX7_bars_mono {a1 : Int32} {Q : Int32 → Mm → Prop} {M : Mm} {R : Int32 → Mm → Prop} (hQ : ∀ z0 z1, Q z0 z1 → R z0 z1) (h : wX7_bars a1 Q M) : wX7_bars a1 R M := by
  unfold wX7_bars at h ⊢
  repeat (first | with_reducible exact h | with_reducible exact hQ _ _ h | with_reducible refine And.imp (fun h => ?_) (fun h => ?_) h | with_reducible refine wX7_within_mono (fun _ _ h => ?_) h | with_reducible refine wX7_findBest_mono (fun _ h => ?_) h | with_reducible refine lX7_bars_35_mono (fun _ _ h => ?_) h | (intro c; replace h := h c))
theorem wX7_against_mono {a1 : Int32} {a2 : Int32} {Q : Int32 → Mm → Prop} {M : Mm} {R : Int32 → Mm → Prop} (hQ : ∀ z0 z1, Q z0 z1 → R z0 z1) (h : wX7_against a1 a2 Q M) : wX7_against a1 a2 R M := by
  unfold wX7_against at h ⊢
  repeat (first | with_reducible exact h | with_reducible exact hQ _ _ h | with_reducible refine And.imp (fun h => ?_) (fun h => ?_) h | with_reducible refine wX7_allRows_mono (fun _ _ h => ?_) h | with_reducible refine wX7_within_mono (fun _ _ h => ?_) h | with_reducible refine wX7_layRow_mono (fun _ h => ?_) h | with_reducible refine wX7_layGain_mono (fun _ h => ?_) h | with_reducible refine wX7_compare_mono (fun _ _ h => ?_) h | (intro c; replace h := h c))
theorem bX7_mends_52_mono {a1 : Int32} {x2_38 : Int32} {x3_38 : Int32} {x4_38 : Int32} {x5_38 : Int32} {Q : Int32 → Mm → Prop} {J_38 : Int32 → Int32 → Int32 → Int32 → Mm → Prop} {J_52 : Int32 → Int32 → Mm → Prop} {x6_52 : Int32} {x7_52 : Int32} {m52 : Mm} {R : Int32 → Mm → Prop} (hQ : ∀ z0 z1, Q z0 z1 → R z0 z1) (h : bX7_mends_52 a1 x2_38 x3_38 x4_38 x5_38 Q J_38 J_52 x6_52 x7_52 m52) : bX7_mends_52 a1 x2_38 x3_38 x4_38 x5_38 R J_38 J_52 x6_52 x7_52 m52 := by
  unfold bX7_mends_52 at h ⊢
  repeat (first | with_reducible exact h | with_reducible exact hQ _ _ h | with_reducible refine And.imp (fun h => ?_) (fun h => ?_) h | with_reducible refine wX7_hisBar_mono (fun _ _ h => ?_) h | (intro c; replace h := h c))
theorem lX7_mends_52_mono {a1 : Int32} {x2_38 : Int32} {x3_38 : Int32} {x4_38 : Int32} {x5_38 : Int32} {Q : Int32 → Mm → Prop} {J_38 : Int32 → Int32 → Int32 → Int32 → Mm → Prop} {x6_52 : Int32} {x7_52 : Int32} {m52 : Mm} {R : Int32 → Mm → Prop} (hQ : ∀ z0 z1, Q z0 z1 → R z0 z1) (h : lX7_mends_52 a1 x2_38 x3_38 x4_38 x5_38 Q J_38 x6_52 x7_52 m52) : lX7_mends_52 a1 x2_38 x3_38 x4_38 x5_38 R J_38 x6_52 x7_52 m52 := fun I hI => h I (fun J hJ _ _ _ hb => hI J hJ _ _ _ (bX7_mends_52_mono hQ hb))
theorem bX7_mends_38_mono {a1 : Int32} {Q : Int32 → Mm → Prop} {J_38 : Int32 → Int32 → Int32 → Int32 → Mm → Prop} {x2_38 : Int32} {x3_38 : Int32} {x4_38 : Int32} {x5_38 : Int32} {m38 : Mm} {R : Int32 → Mm → Prop} (hQ : ∀ z0 z1, Q z0 z1 → R z0 z1) (h : bX7_mends_38 a1 Q J_38 x2_38 x3_38 x4_38 x5_38 m38) : bX7_mends_38 a1 R J_38 x2_38 x3_38 x4_38 x5_38 m38 := by
  unfold bX7_mends_38 at h ⊢
  repeat (first | with_reducible exact h | with_reducible exact hQ _ _ h | with_reducible refine And.imp (fun h => ?_) (fun h => ?_) h | with_reducible refine lX7_mends_52_mono (fun _ _ h => ?_) h | (intro c; replace h := h c))
theorem lX7_mends_38_mono {a1 : Int32} {Q : Int32 → Mm → Prop} {x2_38 : Int32} {x3_38 : Int32} {x4_38 : Int32} {x5_38 : Int32} {m38 : Mm} {R : Int32 → Mm → Prop} (hQ : ∀ z0 z1, Q z0 z1 → R z0 z1) (h : lX7_mends_38 a1 Q x2_38 x3_38 x4_38 x5_38 m38) : lX7_mends_38 a1 R x2_38 x3_38 x4_38 x5_38 m38 := fun I hI => h I (fun J hJ _ _ _ _ _ hb => hI J hJ _ _ _ _ _ (bX7_mends_38_mono hQ hb))
theorem wX7_mends_mono {a1 : Int32} {Q : Int32 → Mm → Prop} {M : Mm} {R : Int32 → Mm → Prop} (hQ : ∀ z0 z1, Q z0 z1 → R z0 z1) (h : wX7_mends a1 Q M) : wX7_mends a1 R M := by
  unfold wX7_mends at h ⊢
  repeat (first | with_reducible exact h | with_reducible exact hQ _ _ h | with_reducible refine And.imp (fun h => ?_) (fun h => ?_) h | with_reducible refine wX7_within_mono (fun _ _ h => ?_) h | with_reducible refine wX7_findBest_mono (fun _ h => ?_) h | with_reducible refine lX7_mends_38_mono (fun _ _ h => ?_) h | (intro c; replace h := h c))
theorem bX7_layBlind_14_mono {y2_14 : Int64} {Q : Mm → Prop} {J_14 : Int32 → Mm → Prop} {x4_14 : Int32} {m14 : Mm} {R : Mm → Prop} (hQ : ∀ z0, Q z0 → R z0) (h : bX7_layBlind_14 y2_14 Q J_14 x4_14 m14) : bX7_layBlind_14 y2_14 R J_14 x4_14 m14 := by
  unfold bX7_layBlind_14 at h ⊢
  repeat (first | with_reducible exact h | with_reducible exact hQ _ h | with_reducible refine And.imp (fun h => ?_) (fun h => ?_) h | with_reducible refine wX7_layWeights_mono (fun _ h => ?_) h | (intro c; replace h := h c))
theorem lX7_layBlind_14_mono {y2_14 : Int64} {Q : Mm → Prop} {x4_14 : Int32} {m14 : Mm} {R : Mm → Prop} (hQ : ∀ z0, Q z0 → R z0) (h : lX7_layBlind_14 y2_14 Q x4_14 m14) : lX7_layBlind_14 y2_14 R x4_14 m14 := fun I hI => h I (fun J hJ _ _ hb => hI J hJ _ _ (bX7_layBlind_14_mono hQ hb))
theorem wX7_layBlind_mono {a1 : Int32} {Q : Mm → Prop} {M : Mm} {R : Mm → Prop} (hQ : ∀ z0, Q z0 → R z0) (h : wX7_layBlind a1 Q M) : wX7_layBlind a1 R M := by
  unfold wX7_layBlind at h ⊢
  repeat (first | with_reducible exact h | with_reducible exact hQ _ h | with_reducible refine And.imp (fun h => ?_) (fun h => ?_) h | with_reducible refine lX7_layBlind_14_mono (fun _ h => ?_) h | (intro c; replace h := h c))
theorem wX7_blind_mono {a1 : Int32} {a2 : Int32} {a3 : Int32} {Q : Int64 → Mm → Prop} {M : Mm} {R : Int64 → Mm → Prop} (hQ : ∀ z0 z1, Q z0 z1 → R z0 z1) (h : wX7_blind a1 a2 a3 Q M) : wX7_blind a1 a2 a3 R M := by
  unfold wX7_blind at h ⊢
  repeat (first | with_reducible exact h | with_reducible exact hQ _ _ h | with_reducible refine And.imp (fun h => ?_) (fun h => ?_) h | with_reducible refine wX7_within_mono (fun _ _ h => ?_) h | with_reducible refine wX7_isWhich_mono (fun _ _ h => ?_) h | with_reducible refine wX7_layBlind_mono (fun _ h => ?_) h | with_reducible refine wX7_allWeights_mono (fun _ _ h => ?_) h | with_reducible refine wX7_share_mono (fun _ h => ?_) h | with_reducible refine wX7_told_mono (fun _ _ h => ?_) h | (intro c; replace h := h c))
theorem bX7_rest_41_mono {x1_22 : Int32} {x2_22 : Int32} {Q : Int32 → Mm → Prop} {J_22 : Int32 → Int32 → Mm → Prop} {J_41 : Int64 → Int64 → Int32 → Mm → Prop} {x3_41 : Int64} {x5_41 : Int64} {x7_41 : Int32} {m41 : Mm} {R : Int32 → Mm → Prop} (hQ : ∀ z0 z1, Q z0 z1 → R z0 z1) (h : bX7_rest_41 x1_22 x2_22 Q J_22 J_41 x3_41 x5_41 x7_41 m41) : bX7_rest_41 x1_22 x2_22 R J_22 J_41 x3_41 x5_41 x7_41 m41 := by
  unfold bX7_rest_41 at h ⊢
  repeat (first | with_reducible exact h | with_reducible exact hQ _ _ h | with_reducible refine And.imp (fun h => ?_) (fun h => ?_) h | with_reducible refine wX7_compare_mono (fun _ _ h => ?_) h | with_reducible refine wX7_metAt_mono (fun _ _ h => ?_) h | (intro c; replace h := h c))
theorem lX7_rest_41_mono {x1_22 : Int32} {x2_22 : Int32} {Q : Int32 → Mm → Prop} {J_22 : Int32 → Int32 → Mm → Prop} {x3_41 : Int64} {x5_41 : Int64} {x7_41 : Int32} {m41 : Mm} {R : Int32 → Mm → Prop} (hQ : ∀ z0 z1, Q z0 z1 → R z0 z1) (h : lX7_rest_41 x1_22 x2_22 Q J_22 x3_41 x5_41 x7_41 m41) : lX7_rest_41 x1_22 x2_22 R J_22 x3_41 x5_41 x7_41 m41 := fun I hI => h I (fun J hJ _ _ _ _ hb => hI J hJ _ _ _ _ (bX7_rest_41_mono hQ hb))
theorem bX7_rest_22_mono {Q : Int32 → Mm → Prop} {J_22 : Int32 → Int32 → Mm → Prop} {x1_22 : Int32} {x2_22 : Int32} {m22 : Mm} {R : Int32 → Mm → Prop} (hQ : ∀ z0 z1, Q z0 z1 → R z0 z1) (h : bX7_rest_22 Q J_22 x1_22 x2_22 m22) : bX7_rest_22 R J_22 x1_22 x2_22 m22 := by
  unfold bX7_rest_22 at h ⊢
  repeat (first | with_reducible exact h | with_reducible exact hQ _ _ h | with_reducible refine And.imp (fun h => ?_) (fun h => ?_) h | with_reducible refine wX7_layBlind_mono (fun _ h => ?_) h | with_reducible refine lX7_rest_41_mono (fun _ _ h => ?_) h | (intro c; replace h := h c))
theorem lX7_rest_22_mono {Q : Int32 → Mm → Prop} {x1_22 : Int32} {x2_22 : Int32} {m22 : Mm} {R : Int32 → Mm → Prop} (hQ : ∀ z0 z1, Q z0 z1 → R z0 z1) (h : lX7_rest_22 Q x1_22 x2_22 m22) : lX7_rest_22 R x1_22 x2_22 m22 := fun I hI => h I (fun J hJ _ _ _ hb => hI J hJ _ _ _ (bX7_rest_22_mono hQ hb))
theorem wX7_rest_mono {Q : Int32 → Mm → Prop} {M : Mm} {R : Int32 → Mm → Prop} (hQ : ∀ z0 z1, Q z0 z1 → R z0 z1) (h : wX7_rest Q M) : wX7_rest R M := by
  unfold wX7_rest at h ⊢
  repeat (first | with_reducible exact h | with_reducible exact hQ _ _ h | with_reducible refine And.imp (fun h => ?_) (fun h => ?_) h | with_reducible refine lX7_rest_22_mono (fun _ _ h => ?_) h | (intro c; replace h := h c))
theorem wX7_order_mono {a1 : Int32} {Q : Int32 → Mm → Prop} {M : Mm} {R : Int32 → Mm → Prop} (hQ : ∀ z0 z1, Q z0 z1 → R z0 z1) (h : wX7_order a1 Q M) : wX7_order a1 R M := by
  unfold wX7_order at h ⊢
  repeat (first | with_reducible exact h | with_reducible exact hQ _ _ h | with_reducible refine And.imp (fun h => ?_) (fun h => ?_) h | with_reducible refine wX7_within_mono (fun _ _ h => ?_) h | (intro c; replace h := h c))
theorem bX7_standing_4_mono {Q : Int32 → Mm → Prop} {J_4 : Int32 → Int32 → Mm → Prop} {x1_4 : Int32} {x2_4 : Int32} {m4 : Mm} {R : Int32 → Mm → Prop} (hQ : ∀ z0 z1, Q z0 z1 → R z0 z1) (h : bX7_standing_4 Q J_4 x1_4 x2_4 m4) : bX7_standing_4 R J_4 x1_4 x2_4 m4 := by
  unfold bX7_standing_4 at h ⊢
  repeat (first | with_reducible exact h | with_reducible exact hQ _ _ h | with_reducible refine And.imp (fun h => ?_) (fun h => ?_) h | (intro c; replace h := h c))
theorem lX7_standing_4_mono {Q : Int32 → Mm → Prop} {x1_4 : Int32} {x2_4 : Int32} {m4 : Mm} {R : Int32 → Mm → Prop} (hQ : ∀ z0 z1, Q z0 z1 → R z0 z1) (h : lX7_standing_4 Q x1_4 x2_4 m4) : lX7_standing_4 R x1_4 x2_4 m4 := fun I hI => h I (fun J hJ _ _ _ hb => hI J hJ _ _ _ (bX7_standing_4_mono hQ hb))
theorem wX7_standing_mono {Q : Int32 → Mm → Prop} {M : Mm} {R : Int32 → Mm → Prop} (hQ : ∀ z0 z1, Q z0 z1 → R z0 z1) (h : wX7_standing Q M) : wX7_standing R M := by
  unfold wX7_standing at h ⊢
  repeat (first | with_reducible exact h | with_reducible exact hQ _ _ h | with_reducible refine And.imp (fun h => ?_) (fun h => ?_) h | with_reducible refine lX7_standing_4_mono (fun _ _ h => ?_) h | (intro c; replace h := h c))
theorem bX7_nextServed_5_mono {Q : Int32 → Mm → Prop} {J_5 : Int32 → Int32 → Mm → Prop} {x1_5 : Int32} {x2_5 : Int32} {m5 : Mm} {R : Int32 → Mm → Prop} (hQ : ∀ z0 z1, Q z0 z1 → R z0 z1) (h : bX7_nextServed_5 Q J_5 x1_5 x2_5 m5) : bX7_nextServed_5 R J_5 x1_5 x2_5 m5 := by
  unfold bX7_nextServed_5 at h ⊢
  repeat (first | with_reducible exact h | with_reducible exact hQ _ _ h | with_reducible refine And.imp (fun h => ?_) (fun h => ?_) h | (intro c; replace h := h c))
theorem lX7_nextServed_5_mono {Q : Int32 → Mm → Prop} {x1_5 : Int32} {x2_5 : Int32} {m5 : Mm} {R : Int32 → Mm → Prop} (hQ : ∀ z0 z1, Q z0 z1 → R z0 z1) (h : lX7_nextServed_5 Q x1_5 x2_5 m5) : lX7_nextServed_5 R x1_5 x2_5 m5 := fun I hI => h I (fun J hJ _ _ _ hb => hI J hJ _ _ _ (bX7_nextServed_5_mono hQ hb))
theorem wX7_nextServed_mono {Q : Int32 → Mm → Prop} {M : Mm} {R : Int32 → Mm → Prop} (hQ : ∀ z0 z1, Q z0 z1 → R z0 z1) (h : wX7_nextServed Q M) : wX7_nextServed R M := by
  unfold wX7_nextServed at h ⊢
  repeat (first | with_reducible exact h | with_reducible exact hQ _ _ h | with_reducible refine And.imp (fun h => ?_) (fun h => ?_) h | with_reducible refine lX7_nextServed_5_mono (fun _ _ h => ?_) h | (intro c; replace h := h c))
theorem bX7_sortBy_4_mono {Q : Int32 → Mm → Prop} {J_4 : Int32 → Int32 → Mm → Prop} {x2_4 : Int32} {x3_4 : Int32} {m4 : Mm} {R : Int32 → Mm → Prop} (hQ : ∀ z0 z1, Q z0 z1 → R z0 z1) (h : bX7_sortBy_4 Q J_4 x2_4 x3_4 m4) : bX7_sortBy_4 R J_4 x2_4 x3_4 m4 := by
  unfold bX7_sortBy_4 at h ⊢
  repeat (first | with_reducible exact h | with_reducible exact hQ _ _ h | with_reducible refine And.imp (fun h => ?_) (fun h => ?_) h | (intro c; replace h := h c))
theorem lX7_sortBy_4_mono {Q : Int32 → Mm → Prop} {x2_4 : Int32} {x3_4 : Int32} {m4 : Mm} {R : Int32 → Mm → Prop} (hQ : ∀ z0 z1, Q z0 z1 → R z0 z1) (h : lX7_sortBy_4 Q x2_4 x3_4 m4) : lX7_sortBy_4 R x2_4 x3_4 m4 := fun I hI => h I (fun J hJ _ _ _ hb => hI J hJ _ _ _ (bX7_sortBy_4_mono hQ hb))
theorem wX7_sortBy_mono {a1 : Int32} {Q : Int32 → Mm → Prop} {M : Mm} {R : Int32 → Mm → Prop} (hQ : ∀ z0 z1, Q z0 z1 → R z0 z1) (h : wX7_sortBy a1 Q M) : wX7_sortBy a1 R M := by
  unfold wX7_sortBy at h ⊢
  repeat (first | with_reducible exact h | with_reducible exact hQ _ _ h | with_reducible refine And.imp (fun h => ?_) (fun h => ?_) h | with_reducible refine lX7_sortBy_4_mono (fun _ _ h => ?_) h | (intro c; replace h := h c))
theorem bX7_minute_66_mono {a1 : Int32} {r_6 : Int32} {r_8 : Int32} {Q : Int32 → Mm → Prop} {J_66 : Int32 → Mm → Prop} {x5_66 : Int32} {m66 : Mm} {R : Int32 → Mm → Prop} (hQ : ∀ z0 z1, Q z0 z1 → R z0 z1) (h : bX7_minute_66 a1 r_6 r_8 Q J_66 x5_66 m66) : bX7_minute_66 a1 r_6 r_8 R J_66 x5_66 m66 := by
  unfold bX7_minute_66 at h ⊢
  repeat (first | with_reducible exact h | with_reducible exact hQ _ _ h | with_reducible refine And.imp (fun h => ?_) (fun h => ?_) h | with_reducible refine wX7_standing_mono (fun _ _ h => ?_) h | (intro c; replace h := h c))
theorem lX7_minute_66_mono {a1 : Int32} {r_6 : Int32} {r_8 : Int32} {Q : Int32 → Mm → Prop} {x5_66 : Int32} {m66 : Mm} {R : Int32 → Mm → Prop} (hQ : ∀ z0 z1, Q z0 z1 → R z0 z1) (h : lX7_minute_66 a1 r_6 r_8 Q x5_66 m66) : lX7_minute_66 a1 r_6 r_8 R x5_66 m66 := fun I hI => h I (fun J hJ _ _ hb => hI J hJ _ _ (bX7_minute_66_mono hQ hb))
theorem bX7_minute_66a_mono {a1 : Int32} {r_6 : Int32} {r_123 : Int32} {Q : Int32 → Mm → Prop} {J_66 : Int32 → Mm → Prop} {x5_66 : Int32} {m66 : Mm} {R : Int32 → Mm → Prop} (hQ : ∀ z0 z1, Q z0 z1 → R z0 z1) (h : bX7_minute_66a a1 r_6 r_123 Q J_66 x5_66 m66) : bX7_minute_66a a1 r_6 r_123 R J_66 x5_66 m66 := by
  unfold bX7_minute_66a at h ⊢
  repeat (first | with_reducible exact h | with_reducible exact hQ _ _ h | with_reducible refine And.imp (fun h => ?_) (fun h => ?_) h | with_reducible refine wX7_standing_mono (fun _ _ h => ?_) h | (intro c; replace h := h c))
theorem lX7_minute_66a_mono {a1 : Int32} {r_6 : Int32} {r_123 : Int32} {Q : Int32 → Mm → Prop} {x5_66 : Int32} {m66 : Mm} {R : Int32 → Mm → Prop} (hQ : ∀ z0 z1, Q z0 z1 → R z0 z1) (h : lX7_minute_66a a1 r_6 r_123 Q x5_66 m66) : lX7_minute_66a a1 r_6 r_123 R x5_66 m66 := fun I hI => h I (fun J hJ _ _ hb => hI J hJ _ _ (bX7_minute_66a_mono hQ hb))
theorem wX7_minute_mono {a1 : Int32} {a2 : Int32} {Q : Int32 → Mm → Prop} {M : Mm} {R : Int32 → Mm → Prop} (hQ : ∀ z0 z1, Q z0 z1 → R z0 z1) (h : wX7_minute a1 a2 Q M) : wX7_minute a1 a2 R M := by
  unfold wX7_minute at h ⊢
  repeat (first | with_reducible exact h | with_reducible exact hQ _ _ h | with_reducible refine And.imp (fun h => ?_) (fun h => ?_) h | with_reducible refine wX7_within_mono (fun _ _ h => ?_) h | with_reducible refine wX7_sortBy_mono (fun _ _ h => ?_) h | with_reducible refine wX7_nextServed_mono (fun _ _ h => ?_) h | with_reducible refine lX7_minute_66_mono (fun _ _ h => ?_) h | with_reducible refine lX7_minute_66a_mono (fun _ _ h => ?_) h | (intro c; replace h := h c))
theorem wX7_isComer_mono {a1 : Int32} {Q : Int32 → Mm → Prop} {M : Mm} {R : Int32 → Mm → Prop} (hQ : ∀ z0 z1, Q z0 z1 → R z0 z1) (h : wX7_isComer a1 Q M) : wX7_isComer a1 R M := by
  unfold wX7_isComer at h ⊢
  repeat (first | with_reducible exact h | with_reducible exact hQ _ _ h | with_reducible refine And.imp (fun h => ?_) (fun h => ?_) h | (intro c; replace h := h c))
theorem wX7_ofComer_mono {a1 : Int32} {a2 : Int32} {Q : Int32 → Mm → Prop} {M : Mm} {R : Int32 → Mm → Prop} (hQ : ∀ z0 z1, Q z0 z1 → R z0 z1) (h : wX7_ofComer a1 a2 Q M) : wX7_ofComer a1 a2 R M := by
  unfold wX7_ofComer at h ⊢
  repeat (first | with_reducible exact h | with_reducible exact hQ _ _ h | with_reducible refine And.imp (fun h => ?_) (fun h => ?_) h | with_reducible refine wX7_isComer_mono (fun _ _ h => ?_) h | (intro c; replace h := h c))
theorem wX7_leave_mono {a1 : Int32} {Q : Int32 → Mm → Prop} {M : Mm} {R : Int32 → Mm → Prop} (hQ : ∀ z0 z1, Q z0 z1 → R z0 z1) (h : wX7_leave a1 Q M) : wX7_leave a1 R M := by
  unfold wX7_leave at h ⊢
  repeat (first | with_reducible exact h | with_reducible exact hQ _ _ h | with_reducible refine And.imp (fun h => ?_) (fun h => ?_) h | with_reducible refine wX7_isComer_mono (fun _ _ h => ?_) h | with_reducible refine wX7_standing_mono (fun _ _ h => ?_) h | (intro c; replace h := h c))
theorem bX7_line_15_mono {a1 : Int32} {Q : Int32 → Mm → Prop} {J_15 : Int32 → Int32 → Mm → Prop} {x2_15 : Int32} {x3_15 : Int32} {m15 : Mm} {R : Int32 → Mm → Prop} (hQ : ∀ z0 z1, Q z0 z1 → R z0 z1) (h : bX7_line_15 a1 Q J_15 x2_15 x3_15 m15) : bX7_line_15 a1 R J_15 x2_15 x3_15 m15 := by
  unfold bX7_line_15 at h ⊢
  repeat (first | with_reducible exact h | with_reducible exact hQ _ _ h | with_reducible refine And.imp (fun h => ?_) (fun h => ?_) h | (intro c; replace h := h c))
theorem lX7_line_15_mono {a1 : Int32} {Q : Int32 → Mm → Prop} {x2_15 : Int32} {x3_15 : Int32} {m15 : Mm} {R : Int32 → Mm → Prop} (hQ : ∀ z0 z1, Q z0 z1 → R z0 z1) (h : lX7_line_15 a1 Q x2_15 x3_15 m15) : lX7_line_15 a1 R x2_15 x3_15 m15 := fun I hI => h I (fun J hJ _ _ _ hb => hI J hJ _ _ _ (bX7_line_15_mono hQ hb))
theorem wX7_line_mono {a1 : Int32} {Q : Int32 → Mm → Prop} {M : Mm} {R : Int32 → Mm → Prop} (hQ : ∀ z0 z1, Q z0 z1 → R z0 z1) (h : wX7_line a1 Q M) : wX7_line a1 R M := by
  unfold wX7_line at h ⊢
  repeat (first | with_reducible exact h | with_reducible exact hQ _ _ h | with_reducible refine And.imp (fun h => ?_) (fun h => ?_) h | with_reducible refine wX7_within_mono (fun _ _ h => ?_) h | with_reducible refine lX7_line_15_mono (fun _ _ h => ?_) h | (intro c; replace h := h c))
theorem bX7_envy_16_mono {x2_4 : Int32} {Q : Int32 → Mm → Prop} {J_4 : Int32 → Int32 → Mm → Prop} {J_16 : Int32 → Int32 → Mm → Prop} {x1_16 : Int32} {x3_16 : Int32} {m16 : Mm} {R : Int32 → Mm → Prop} (hQ : ∀ z0 z1, Q z0 z1 → R z0 z1) (h : bX7_envy_16 x2_4 Q J_4 J_16 x1_16 x3_16 m16) : bX7_envy_16 x2_4 R J_4 J_16 x1_16 x3_16 m16 := by
  unfold bX7_envy_16 at h ⊢
  repeat (first | with_reducible exact h | with_reducible exact hQ _ _ h | with_reducible refine And.imp (fun h => ?_) (fun h => ?_) h | (intro c; replace h := h c))
theorem lX7_envy_16_mono {x2_4 : Int32} {Q : Int32 → Mm → Prop} {J_4 : Int32 → Int32 → Mm → Prop} {x1_16 : Int32} {x3_16 : Int32} {m16 : Mm} {R : Int32 → Mm → Prop} (hQ : ∀ z0 z1, Q z0 z1 → R z0 z1) (h : lX7_envy_16 x2_4 Q J_4 x1_16 x3_16 m16) : lX7_envy_16 x2_4 R J_4 x1_16 x3_16 m16 := fun I hI => h I (fun J hJ _ _ _ hb => hI J hJ _ _ _ (bX7_envy_16_mono hQ hb))
theorem bX7_envy_4_mono {Q : Int32 → Mm → Prop} {J_4 : Int32 → Int32 → Mm → Prop} {x1_4 : Int32} {x2_4 : Int32} {m4 : Mm} {R : Int32 → Mm → Prop} (hQ : ∀ z0 z1, Q z0 z1 → R z0 z1) (h : bX7_envy_4 Q J_4 x1_4 x2_4 m4) : bX7_envy_4 R J_4 x1_4 x2_4 m4 := by
  unfold bX7_envy_4 at h ⊢
  repeat (first | with_reducible exact h | with_reducible exact hQ _ _ h | with_reducible refine And.imp (fun h => ?_) (fun h => ?_) h | with_reducible refine lX7_envy_16_mono (fun _ _ h => ?_) h | (intro c; replace h := h c))
theorem lX7_envy_4_mono {Q : Int32 → Mm → Prop} {x1_4 : Int32} {x2_4 : Int32} {m4 : Mm} {R : Int32 → Mm → Prop} (hQ : ∀ z0 z1, Q z0 z1 → R z0 z1) (h : lX7_envy_4 Q x1_4 x2_4 m4) : lX7_envy_4 R x1_4 x2_4 m4 := fun I hI => h I (fun J hJ _ _ _ hb => hI J hJ _ _ _ (bX7_envy_4_mono hQ hb))
theorem wX7_envy_mono {Q : Int32 → Mm → Prop} {M : Mm} {R : Int32 → Mm → Prop} (hQ : ∀ z0 z1, Q z0 z1 → R z0 z1) (h : wX7_envy Q M) : wX7_envy R M := by
  unfold wX7_envy at h ⊢
  repeat (first | with_reducible exact h | with_reducible exact hQ _ _ h | with_reducible refine And.imp (fun h => ?_) (fun h => ?_) h | with_reducible refine lX7_envy_4_mono (fun _ _ h => ?_) h | (intro c; replace h := h c))
theorem bX7_sheet_57_mono {a1 : Int32} {Q : Int32 → Mm → Prop} {J_57 : Int32 → Mm → Prop} {x4_57 : Int32} {m57 : Mm} {R : Int32 → Mm → Prop} (hQ : ∀ z0 z1, Q z0 z1 → R z0 z1) (h : bX7_sheet_57 a1 Q J_57 x4_57 m57) : bX7_sheet_57 a1 R J_57 x4_57 m57 := by
  unfold bX7_sheet_57 at h ⊢
  repeat (first | with_reducible exact h | with_reducible exact hQ _ _ h | with_reducible refine And.imp (fun h => ?_) (fun h => ?_) h | (intro c; replace h := h c))
theorem lX7_sheet_57_mono {a1 : Int32} {Q : Int32 → Mm → Prop} {x4_57 : Int32} {m57 : Mm} {R : Int32 → Mm → Prop} (hQ : ∀ z0 z1, Q z0 z1 → R z0 z1) (h : lX7_sheet_57 a1 Q x4_57 m57) : lX7_sheet_57 a1 R x4_57 m57 := fun I hI => h I (fun J hJ _ _ hb => hI J hJ _ _ (bX7_sheet_57_mono hQ hb))
theorem wX7_sheet_mono {a1 : Int32} {a2 : Int32} {a3 : Int32} {Q : Int32 → Mm → Prop} {M : Mm} {R : Int32 → Mm → Prop} (hQ : ∀ z0 z1, Q z0 z1 → R z0 z1) (h : wX7_sheet a1 a2 a3 Q M) : wX7_sheet a1 a2 a3 R M := by
  unfold wX7_sheet at h ⊢
  repeat (first | with_reducible exact h | with_reducible exact hQ _ _ h | with_reducible refine And.imp (fun h => ?_) (fun h => ?_) h | with_reducible refine wX7_isSheet_mono (fun _ _ h => ?_) h | with_reducible refine wX7_isLane_mono (fun _ _ h => ?_) h | with_reducible refine lX7_sheet_57_mono (fun _ _ h => ?_) h | with_reducible refine wX7_fails_mono (fun _ _ h => ?_) h | (intro c; replace h := h c))
theorem wX7_lose_mono {a1 : Int32} {Q : Int32 → Mm → Prop} {M : Mm} {R : Int32 → Mm → Prop} (hQ : ∀ z0 z1, Q z0 z1 → R z0 z1) (h : wX7_lose a1 Q M) : wX7_lose a1 R M := by
  unfold wX7_lose at h ⊢
  repeat (first | with_reducible exact h | with_reducible exact hQ _ _ h | with_reducible refine And.imp (fun h => ?_) (fun h => ?_) h | with_reducible refine wX7_isSheet_mono (fun _ _ h => ?_) h | (intro c; replace h := h c))
theorem wX7_put_mono {a1 : Int32} {a2 : Int32} {a3 : Int32} {Q : Int32 → Mm → Prop} {M : Mm} {R : Int32 → Mm → Prop} (hQ : ∀ z0 z1, Q z0 z1 → R z0 z1) (h : wX7_put a1 a2 a3 Q M) : wX7_put a1 a2 a3 R M := by
  unfold wX7_put at h ⊢
  repeat (first | with_reducible exact h | with_reducible exact hQ _ _ h | with_reducible refine And.imp (fun h => ?_) (fun h => ?_) h | with_reducible refine wX7_isSheet_mono (fun _ _ h => ?_) h | with_reducible refine wX7_fails_mono (fun _ _ h => ?_) h | with_reducible refine wX7_within_mono (fun _ _ h => ?_) h | (intro c; replace h := h c))
theorem wX7_cell_mono {a1 : Int32} {a2 : Int32} {a3 : Int32} {Q : Int64 → Mm → Prop} {M : Mm} {R : Int64 → Mm → Prop} (hQ : ∀ z0 z1, Q z0 z1 → R z0 z1) (h : wX7_cell a1 a2 a3 Q M) : wX7_cell a1 a2 a3 R M := by
  unfold wX7_cell at h ⊢
  repeat (first | with_reducible exact h | with_reducible exact hQ _ _ h | with_reducible refine And.imp (fun h => ?_) (fun h => ?_) h | with_reducible refine wX7_isSheet_mono (fun _ _ h => ?_) h | with_reducible refine wX7_isLane_mono (fun _ _ h => ?_) h | with_reducible refine wX7_lost_mono (fun _ _ h => ?_) h | with_reducible refine wX7_within_mono (fun _ _ h => ?_) h | (intro c; replace h := h c))
theorem wX7_begins_mono {a1 : Int32} {Q : Mm → Prop} {M : Mm} {R : Mm → Prop} (hQ : ∀ z0, Q z0 → R z0) (h : wX7_begins a1 Q M) : wX7_begins a1 R M := by
  unfold wX7_begins at h ⊢
  repeat (first | with_reducible exact h | with_reducible exact hQ _ h | with_reducible refine And.imp (fun h => ?_) (fun h => ?_) h | (intro c; replace h := h c))
theorem wX7_tell_mono {a1 : Int32} {Q : Int32 → Mm → Prop} {M : Mm} {R : Int32 → Mm → Prop} (hQ : ∀ z0 z1, Q z0 z1 → R z0 z1) (h : wX7_tell a1 Q M) : wX7_tell a1 R M := by
  unfold wX7_tell at h ⊢
  repeat (first | with_reducible exact h | with_reducible exact hQ _ _ h | with_reducible refine And.imp (fun h => ?_) (fun h => ?_) h | with_reducible refine wX7_isComer_mono (fun _ _ h => ?_) h | with_reducible refine wX7_begins_mono (fun _ h => ?_) h | (intro c; replace h := h c))
theorem wX7_call_mono {a1 : Int32} {Q : Int32 → Mm → Prop} {M : Mm} {R : Int32 → Mm → Prop} (hQ : ∀ z0 z1, Q z0 z1 → R z0 z1) (h : wX7_call a1 Q M) : wX7_call a1 R M := by
  unfold wX7_call at h ⊢
  repeat (first | with_reducible exact h | with_reducible exact hQ _ _ h | with_reducible refine And.imp (fun h => ?_) (fun h => ?_) h | with_reducible refine wX7_isComer_mono (fun _ _ h => ?_) h | with_reducible refine wX7_begins_mono (fun _ h => ?_) h | (intro c; replace h := h c))
theorem wX7_as_mono {a1 : Int32} {a2 : Int32} {Q : Int32 → Mm → Prop} {M : Mm} {R : Int32 → Mm → Prop} (hQ : ∀ z0 z1, Q z0 z1 → R z0 z1) (h : wX7_as a1 a2 Q M) : wX7_as a1 a2 R M := by
  unfold wX7_as at h ⊢
  repeat (first | with_reducible exact h | with_reducible exact hQ _ _ h | with_reducible refine And.imp (fun h => ?_) (fun h => ?_) h | with_reducible refine wX7_isComer_mono (fun _ _ h => ?_) h | with_reducible refine wX7_within_mono (fun _ _ h => ?_) h | with_reducible refine wX7_fails_mono (fun _ _ h => ?_) h | (intro c; replace h := h c))
theorem wX7_trace_mono {Q : Int32 → Mm → Prop} {M : Mm} {R : Int32 → Mm → Prop} (hQ : ∀ z0 z1, Q z0 z1 → R z0 z1) (h : wX7_trace Q M) : wX7_trace R M := by
  unfold wX7_trace at h ⊢
  repeat (first | with_reducible exact h | with_reducible exact hQ _ _ h | with_reducible refine And.imp (fun h => ?_) (fun h => ?_) h | (intro c; replace h := h c))
theorem wX7_fault_mono {Q : Int32 → Mm → Prop} {M : Mm} {R : Int32 → Mm → Prop} (hQ : ∀ z0 z1, Q z0 z1 → R z0 z1) (h : wX7_fault Q M) : wX7_fault R M := by
  unfold wX7_fault at h ⊢
  repeat (first | with_reducible exact h | with_reducible exact hQ _ _ h | with_reducible refine And.imp (fun h => ?_) (fun h => ?_) h | (intro c; replace h := h c))
theorem bX7_many_4_mono {a1 : Int32} {Q : Int32 → Mm → Prop} {J_4 : Int32 → Int32 → Mm → Prop} {x2_4 : Int32} {x3_4 : Int32} {m4 : Mm} {R : Int32 → Mm → Prop} (hQ : ∀ z0 z1, Q z0 z1 → R z0 z1) (h : bX7_many_4 a1 Q J_4 x2_4 x3_4 m4) : bX7_many_4 a1 R J_4 x2_4 x3_4 m4 := by
  unfold bX7_many_4 at h ⊢
  repeat (first | with_reducible exact h | with_reducible exact hQ _ _ h | with_reducible refine And.imp (fun h => ?_) (fun h => ?_) h | with_reducible refine wX7_standing_mono (fun _ _ h => ?_) h | (intro c; replace h := h c))
theorem lX7_many_4_mono {a1 : Int32} {Q : Int32 → Mm → Prop} {x2_4 : Int32} {x3_4 : Int32} {m4 : Mm} {R : Int32 → Mm → Prop} (hQ : ∀ z0 z1, Q z0 z1 → R z0 z1) (h : lX7_many_4 a1 Q x2_4 x3_4 m4) : lX7_many_4 a1 R x2_4 x3_4 m4 := fun I hI => h I (fun J hJ _ _ _ hb => hI J hJ _ _ _ (bX7_many_4_mono hQ hb))
theorem wX7_many_mono {a1 : Int32} {Q : Int32 → Mm → Prop} {M : Mm} {R : Int32 → Mm → Prop} (hQ : ∀ z0 z1, Q z0 z1 → R z0 z1) (h : wX7_many a1 Q M) : wX7_many a1 R M := by
  unfold wX7_many at h ⊢
  repeat (first | with_reducible exact h | with_reducible exact hQ _ _ h | with_reducible refine And.imp (fun h => ?_) (fun h => ?_) h | with_reducible refine lX7_many_4_mono (fun _ _ h => ?_) h | (intro c; replace h := h c))
