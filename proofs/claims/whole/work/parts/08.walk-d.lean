def wX7_fails (a1 : Int32) (Q : Int32 → Mm → Prop) (M : Mm) : Prop := (∀ M_1 : Mm, M_1 = (si M 26 a1) → (Q ((-10 : Int32) - a1) M_1))
set_option maxHeartbeats 4000000 in
set_option maxRecDepth 100000 in
theorem ctX7_fails (l : Launch) (D : va_G) (cI cJ : ClassId) (ad : Nat → Nat) (had : inj54 ad) (a1 : Int32) (Q : Int32 → Mm → Prop) (M : Mm) (hF : wX7_fails a1 Q M) : Met l yX7_fails wsX7_fails ({ frames := 0, cells := 0, slots := 0, locals := 0 } : Room) (PcW D cI cJ ad M [.ref (ad 32), .int a1]) (QiW D cI cJ ad Q) 0 0 (Fr ad) := by
  refine entW (y := yX7_fails) (ret := some .int) (maxL := 2) (plainFor_of_name (by decide)) rfl (Nat.le_of_ble_eq_true rfl) ?_
  intro p e s m args below meth c ls S hK hr hlocks hP hS hl
  have hx := S.1
  have hb := S.2.1
  have hown := S.2.2.2.1
  have hts := S.2.2.2.2
  have i7 : ∀ w ∈ wsX70, w ∈ wsX7_fails := by decide +kernel
  have k74 := hts (.fieldLink RX7 74 "RopeLineModel" "fault" "I") (by decide +kernel)
  have hl : lv_has ls 2 [(0, .ref (ad 32)), (1, .int a1)] := hl
  unfold wX7_fails at hF
  refine lv_aload_n hx hb dX7_fails_0 rfl (lv_at hl 0 rfl) ?_
  refine lv_iload_n hx hb dX7_fails_1 rfl (lv_at hl 1 rfl) ?_
  refine pF S hK had hP hS i7 tyX7_ok nmX7 e_M rfl 0 (by decide) k74 rfl rfl rfl (Nat.lt_of_lt_of_eq (by decide) len_M.symm) s_M_fault dX7_fails_2 (fun M_1 H locs eM_1 hP hS => ?_)
  have hF := hF M_1 eM_1
  refine lv_bipush (v := -10) hx hb dX7_fails_5 (by decide) ?_
  refine lv_iload_n hx hb dX7_fails_7 rfl (lv_at hl 1 rfl) ?_
  refine lv_isub hx hb dX7_fails_8 ?_
  exact retI S hr hlocks hP hS hF dX7_fails_9
def wX7_lost (a1 : Int32) (Q : Int64 → Mm → Prop) (M : Mm) : Prop := (∀ M_1 : Mm, M_1 = (si M 26 a1) → (Q (-9223372036854775808 : Int64) M_1))
set_option maxHeartbeats 4000000 in
set_option maxRecDepth 100000 in
theorem ctX7_lost (l : Launch) (D : va_G) (cI cJ : ClassId) (ad : Nat → Nat) (had : inj54 ad) (a1 : Int32) (Q : Int64 → Mm → Prop) (M : Mm) (hF : wX7_lost a1 Q M) : Met l yX7_lost wsX7_lost ({ frames := 0, cells := 0, slots := 0, locals := 0 } : Room) (PcW D cI cJ ad M [.ref (ad 32), .int a1]) (QlW D cI cJ ad Q) 0 0 (Fr ad) := by
  refine entW (y := yX7_lost) (ret := some .long) (maxL := 2) (plainFor_of_name (by decide)) rfl (Nat.le_of_ble_eq_true rfl) ?_
  intro p e s m args below meth c ls S hK hr hlocks hP hS hl
  have hx := S.1
  have hb := S.2.1
  have hown := S.2.2.2.1
  have hts := S.2.2.2.2
  have i7 : ∀ w ∈ wsX70, w ∈ wsX7_lost := by decide +kernel
  have k74 := hts (.fieldLink RX7 74 "RopeLineModel" "fault" "I") (by decide +kernel)
  have hl : lv_has ls 2 [(0, .ref (ad 32)), (1, .int a1)] := hl
  unfold wX7_lost at hF
  refine lv_aload_n hx hb dX7_lost_0 rfl (lv_at hl 0 rfl) ?_
  refine lv_iload_n hx hb dX7_lost_1 rfl (lv_at hl 1 rfl) ?_
  refine pF S hK had hP hS i7 tyX7_ok nmX7 e_M rfl 0 (by decide) k74 rfl rfl rfl (Nat.lt_of_lt_of_eq (by decide) len_M.symm) s_M_fault dX7_lost_2 (fun M_1 H locs eM_1 hP hS => ?_)
  have hF := hF M_1 eM_1
  refine lv_ldc2 (v := -9223372036854775808) hx hb hown (hts (.constantLong RX7 78 (-9223372036854775808)) (by decide +kernel)) dX7_lost_5 ?_
  exact retL S hr hlocks hP hS hF dX7_lost_8
def wX7_within (a0 : Int32) (a1 : Int32) (a2 : Int32) (Q : Int32 → Mm → Prop) (M : Mm) : Prop := ((a0 < a1 → (Q (0 : Int32) M)) ∧ (¬ a0 < a1 → ((a2 < a0 → (Q (0 : Int32) M)) ∧ (¬ a2 < a0 → (Q (1 : Int32) M)))))
set_option maxHeartbeats 4000000 in
set_option maxRecDepth 100000 in
theorem ctX7_within (l : Launch) (D : va_G) (cI cJ : ClassId) (ad : Nat → Nat) (had : inj54 ad) (a0 : Int32) (a1 : Int32) (a2 : Int32) (Q : Int32 → Mm → Prop) (M : Mm) (hF : wX7_within a0 a1 a2 Q M) : Met l yX7_within wsX7_within ({ frames := 0, cells := 0, slots := 0, locals := 0 } : Room) (PcW D cI cJ ad M [.int a0, .int a1, .int a2]) (QzW D cI cJ ad Q) 0 0 (Fr ad) := by
  refine entW (y := yX7_within) (ret := some .boolean) (maxL := 3) (plainFor_of_name (by decide)) rfl (Nat.le_of_ble_eq_true rfl) ?_
  intro p e s m args below meth c ls S hK hr hlocks hP hS hl
  have hx := S.1
  have hb := S.2.1
  have hown := S.2.2.2.1
  have hts := S.2.2.2.2
  have hl : lv_has ls 3 [(0, .int a0), (1, .int a1), (2, .int a2)] := hl
  unfold wX7_within at hF
  refine lv_iload_n hx hb dX7_within_0 rfl (lv_at hl 0 rfl) ?_
  refine lv_iload_n hx hb dX7_within_1 rfl (lv_at hl 1 rfl) ?_
  refine lv_icmp_lt (tgt := 14) hx hb dX7_within_2 (by decide) (fun c_1 => ?_) (fun c_1 => ?_)
  · have hF := hF.1 c_1
    refine lv_iconst (v := 0) hx hb dX7_within_14 (by decide) ?_
    exact retZ S hr hlocks hP hS rfl hF dX7_within_15
  · have hF := hF.2 c_1
    refine lv_iload_n hx hb dX7_within_5 rfl (lv_at hl 0 rfl) ?_
    refine lv_iload_n hx hb dX7_within_6 rfl (lv_at hl 2 rfl) ?_
    refine lv_icmp_gt (tgt := 14) hx hb dX7_within_7 (by decide) (fun c_2 => ?_) (fun c_2 => ?_)
    · have hF := hF.1 c_2
      refine lv_iconst (v := 0) hx hb dX7_within_14 (by decide) ?_
      exact retZ S hr hlocks hP hS rfl hF dX7_within_15
    · have hF := hF.2 c_2
      refine lv_iconst (v := 1) hx hb dX7_within_10 (by decide) ?_
      refine lv_goto (tgt := 15) hx hb dX7_within_11 (by decide) ?_
      exact retZ S hr hlocks hP hS rfl hF dX7_within_15
def bX7_common_28 (Q : Int64 → Mm → Prop) (J_28 : Int64 → Int64 → Mm → Prop) (x4_28 : Int64) (x6_28 : Int64) (m28 : Mm) : Prop := ((x6_28 = (0 : Int64) → (Q x4_28 m28)) ∧ (¬ x6_28 = (0 : Int64) → (¬ x6_28 = 0 ∧ (J_28 x6_28 (x4_28 - x4_28 / x6_28 * x6_28) m28))))
def lX7_common_28 (Q : Int64 → Mm → Prop) (x4_28 : Int64) (x6_28 : Int64) (m28 : Mm) : Prop := ∀ I : Int64 → Int64 → Mm → Prop, (∀ J : Int64 → Int64 → Mm → Prop, (∀ (x4_28 : Int64) (x6_28 : Int64) (m : Mm), J x4_28 x6_28 m → I x4_28 x6_28 m) → ∀ (x4_28 : Int64) (x6_28 : Int64) (m : Mm), bX7_common_28 Q J x4_28 x6_28 m → I x4_28 x6_28 m) → I x4_28 x6_28 m28
theorem lX7_common_28_mk (Q : Int64 → Mm → Prop) (x4_28 : Int64) (x6_28 : Int64) (m28 : Mm) (h : bX7_common_28 Q (lX7_common_28 Q) x4_28 x6_28 m28) : lX7_common_28 Q x4_28 x6_28 m28 := fun I hI => hI (lX7_common_28 Q) (fun _ _ _ q => q I hI) _ _ _ h
def wX7_common (a0 : Int64) (a2 : Int64) (Q : Int64 → Mm → Prop) (M : Mm) : Prop := (((0 : Int64) ≤ a0 → (((0 : Int64) ≤ a2 → (lX7_common_28 Q a0 a2 M)) ∧ (¬ (0 : Int64) ≤ a2 → (lX7_common_28 Q a0 (-a2) M)))) ∧ (¬ (0 : Int64) ≤ a0 → (((0 : Int64) ≤ a2 → (lX7_common_28 Q (-a0) a2 M)) ∧ (¬ (0 : Int64) ≤ a2 → (lX7_common_28 Q (-a0) (-a2) M)))))
set_option maxHeartbeats 4000000 in
set_option maxRecDepth 100000 in
theorem ctX7_common (l : Launch) (D : va_G) (cI cJ : ClassId) (ad : Nat → Nat) (had : inj54 ad) (a0 : Int64) (a2 : Int64) (Q : Int64 → Mm → Prop) (M : Mm) (hF : wX7_common a0 a2 Q M) : Met l yX7_common wsX7_common ({ frames := 0, cells := 0, slots := 0, locals := 0 } : Room) (PcW D cI cJ ad M [.long a0, .long a2]) (QlW D cI cJ ad Q) 0 0 (Fr ad) := by
  refine entW (y := yX7_common) (ret := some .long) (maxL := 10) (plainFor_of_name (by decide)) rfl (Nat.le_of_ble_eq_true rfl) ?_
  intro p e s m args below meth c ls S hK hr hlocks hP hS hl
  have hx := S.1
  have hb := S.2.1
  have hown := S.2.2.2.1
  have hts := S.2.2.2.2
  have hl : lv_has ls 10 [(0, .long a0), (2, .long a2)] := hl
  unfold wX7_common at hF
  refine lv_lload_n hx hb dX7_common_0 rfl (lv_at hl 0 rfl) ?_
  refine lv_lconst (v := 0) hx hb dX7_common_1 (by decide) ?_
  refine W.lcmp hx hb dX7_common_2 ?_
  refine lv_if_ge (tgt := 11) hx hb dX7_common_3 (by decide) (fun c_1 => ?_) (fun c_1 => ?_)
  · have hF := hF.1 (lc_ge.mp c_1)
    refine lv_lload_n hx hb dX7_common_11 rfl (lv_at hl 0 rfl) ?_
    refine lv_lstore (lv' := [(4, .long a0), (0, .long a0), (2, .long a2)]) hx hb dX7_common_12 hl (by decide) rfl (fun ls hl => ?_)
    refine lv_lload_n hx hb dX7_common_14 rfl (lv_at hl 2 rfl) ?_
    refine lv_lconst (v := 0) hx hb dX7_common_15 (by decide) ?_
    refine W.lcmp hx hb dX7_common_16 ?_
    refine lv_if_ge (tgt := 25) hx hb dX7_common_17 (by decide) (fun c_2 => ?_) (fun c_2 => ?_)
    · have hF := hF.1 (lc_ge.mp c_2)
      refine lv_lload_n hx hb dX7_common_25 rfl (lv_at hl 2 rfl) ?_
      refine lv_lstore (lv' := [(6, .long a2), (4, .long a0), (0, .long a0), (2, .long a2)]) hx hb dX7_common_26 hl (by decide) rfl (fun ls hl => ?_)
      have key_28 : ∀ (x4_28 : Int64) (x6_28 : Int64) (m28 : Mm), (lX7_common_28 Q x4_28 x6_28 m28) → Wc p l e ({ frames := 0, cells := 0, slots := 0, locals := 0 } : Room) s m args below meth c D cI cJ ad (MQ below (QlW D cI cJ ad Q) args s 0 0 (Fr ad)) 10 28 [(4, .long x4_28), (6, .long x6_28)] m28 := by
        intro x4_28 x6_28 m28 hL
        refine hL (fun x4_28 x6_28 m28 => Wc p l e ({ frames := 0, cells := 0, slots := 0, locals := 0 } : Room) s m args below meth c D cI cJ ad (MQ below (QlW D cI cJ ad Q) args s 0 0 (Fr ad)) 10 28 [(4, .long x4_28), (6, .long x6_28)] m28) ?_
        intro J_28 hJ_28 x4_28 x6_28 m28 hF H locs ls hP hS hl
        unfold bX7_common_28 at hF
        refine lv_lload hx hb dX7_common_28 (lv_at hl 1 rfl) ?_
        refine lv_lconst (v := 0) hx hb dX7_common_30 (by decide) ?_
        refine W.lcmp hx hb dX7_common_31 ?_
        refine lv_if_eq (tgt := 53) hx hb dX7_common_32 (by decide) (fun c_3 => ?_) (fun c_3 => ?_)
        · have hF := hF.1 (lc_eq.mp c_3)
          refine lv_lload hx hb dX7_common_53 (lv_at hl 0 rfl) ?_
          exact retL S hr hlocks hP hS hF dX7_common_55
        · have hF := hF.2 (fun q => c_3 (lc_eq.mpr q))
          refine lv_lload hx hb dX7_common_35 (lv_at hl 0 rfl) ?_
          refine lv_lload hx hb dX7_common_37 (lv_at hl 1 rfl) ?_
          obtain ⟨hz_4, hF⟩ := hF
          refine lv_lrem hx hb dX7_common_39 hz_4 ?_
          refine lv_lstore (lv' := [(8, .long (x4_28 - x4_28 / x6_28 * x6_28)), (4, .long x4_28), (6, .long x6_28)]) hx hb dX7_common_40 hl (by decide) rfl (fun ls hl => ?_)
          refine lv_lload hx hb dX7_common_42 (lv_at hl 2 rfl) ?_
          refine lv_lstore (lv' := [(4, .long x6_28), (8, .long (x4_28 - x4_28 / x6_28 * x6_28)), (6, .long x6_28)]) hx hb dX7_common_44 hl (by decide) rfl (fun ls hl => ?_)
          refine lv_lload hx hb dX7_common_46 (lv_at hl 1 rfl) ?_
          refine lv_lstore (lv' := [(6, .long (x4_28 - x4_28 / x6_28 * x6_28)), (4, .long x6_28), (8, .long (x4_28 - x4_28 / x6_28 * x6_28))]) hx hb dX7_common_48 hl (by decide) rfl (fun ls hl => ?_)
          refine lv_goto (tgt := 28) hx hb dX7_common_50 (by decide) ?_
          exact hJ_28 _ _ _ hF _ _ _ hP hS (lv_sub hl [1, 0] rfl)
      exact key_28 _ _ _ hF _ _ _ hP hS (lv_sub hl [1, 0] rfl)
    · have hF := hF.2 (fun q => c_2 (lc_ge.mpr q))
      refine lv_lload_n hx hb dX7_common_20 rfl (lv_at hl 2 rfl) ?_
      refine lv_lneg hx hb dX7_common_21 ?_
      refine lv_goto (tgt := 26) hx hb dX7_common_22 (by decide) ?_
      refine lv_lstore (lv' := [(6, .long (-a2)), (4, .long a0), (0, .long a0), (2, .long a2)]) hx hb dX7_common_26 hl (by decide) rfl (fun ls hl => ?_)
      have key_28 : ∀ (x4_28 : Int64) (x6_28 : Int64) (m28 : Mm), (lX7_common_28 Q x4_28 x6_28 m28) → Wc p l e ({ frames := 0, cells := 0, slots := 0, locals := 0 } : Room) s m args below meth c D cI cJ ad (MQ below (QlW D cI cJ ad Q) args s 0 0 (Fr ad)) 10 28 [(4, .long x4_28), (6, .long x6_28)] m28 := by
        intro x4_28 x6_28 m28 hL
        refine hL (fun x4_28 x6_28 m28 => Wc p l e ({ frames := 0, cells := 0, slots := 0, locals := 0 } : Room) s m args below meth c D cI cJ ad (MQ below (QlW D cI cJ ad Q) args s 0 0 (Fr ad)) 10 28 [(4, .long x4_28), (6, .long x6_28)] m28) ?_
        intro J_28 hJ_28 x4_28 x6_28 m28 hF H locs ls hP hS hl
        unfold bX7_common_28 at hF
        refine lv_lload hx hb dX7_common_28 (lv_at hl 1 rfl) ?_
        refine lv_lconst (v := 0) hx hb dX7_common_30 (by decide) ?_
        refine W.lcmp hx hb dX7_common_31 ?_
        refine lv_if_eq (tgt := 53) hx hb dX7_common_32 (by decide) (fun c_5 => ?_) (fun c_5 => ?_)
        · have hF := hF.1 (lc_eq.mp c_5)
          refine lv_lload hx hb dX7_common_53 (lv_at hl 0 rfl) ?_
          exact retL S hr hlocks hP hS hF dX7_common_55
        · have hF := hF.2 (fun q => c_5 (lc_eq.mpr q))
          refine lv_lload hx hb dX7_common_35 (lv_at hl 0 rfl) ?_
          refine lv_lload hx hb dX7_common_37 (lv_at hl 1 rfl) ?_
          obtain ⟨hz_6, hF⟩ := hF
          refine lv_lrem hx hb dX7_common_39 hz_6 ?_
          refine lv_lstore (lv' := [(8, .long (x4_28 - x4_28 / x6_28 * x6_28)), (4, .long x4_28), (6, .long x6_28)]) hx hb dX7_common_40 hl (by decide) rfl (fun ls hl => ?_)
          refine lv_lload hx hb dX7_common_42 (lv_at hl 2 rfl) ?_
          refine lv_lstore (lv' := [(4, .long x6_28), (8, .long (x4_28 - x4_28 / x6_28 * x6_28)), (6, .long x6_28)]) hx hb dX7_common_44 hl (by decide) rfl (fun ls hl => ?_)
          refine lv_lload hx hb dX7_common_46 (lv_at hl 1 rfl) ?_
          refine lv_lstore (lv' := [(6, .long (x4_28 - x4_28 / x6_28 * x6_28)), (4, .long x6_28), (8, .long (x4_28 - x4_28 / x6_28 * x6_28))]) hx hb dX7_common_48 hl (by decide) rfl (fun ls hl => ?_)
          refine lv_goto (tgt := 28) hx hb dX7_common_50 (by decide) ?_
          exact hJ_28 _ _ _ hF _ _ _ hP hS (lv_sub hl [1, 0] rfl)
      exact key_28 _ _ _ hF _ _ _ hP hS (lv_sub hl [1, 0] rfl)
  · have hF := hF.2 (fun q => c_1 (lc_ge.mpr q))
    refine lv_lload_n hx hb dX7_common_6 rfl (lv_at hl 0 rfl) ?_
    refine lv_lneg hx hb dX7_common_7 ?_
    refine lv_goto (tgt := 12) hx hb dX7_common_8 (by decide) ?_
    refine lv_lstore (lv' := [(4, .long (-a0)), (0, .long a0), (2, .long a2)]) hx hb dX7_common_12 hl (by decide) rfl (fun ls hl => ?_)
    refine lv_lload_n hx hb dX7_common_14 rfl (lv_at hl 2 rfl) ?_
    refine lv_lconst (v := 0) hx hb dX7_common_15 (by decide) ?_
    refine W.lcmp hx hb dX7_common_16 ?_
    refine lv_if_ge (tgt := 25) hx hb dX7_common_17 (by decide) (fun c_7 => ?_) (fun c_7 => ?_)
    · have hF := hF.1 (lc_ge.mp c_7)
      refine lv_lload_n hx hb dX7_common_25 rfl (lv_at hl 2 rfl) ?_
      refine lv_lstore (lv' := [(6, .long a2), (4, .long (-a0)), (0, .long a0), (2, .long a2)]) hx hb dX7_common_26 hl (by decide) rfl (fun ls hl => ?_)
      have key_28 : ∀ (x4_28 : Int64) (x6_28 : Int64) (m28 : Mm), (lX7_common_28 Q x4_28 x6_28 m28) → Wc p l e ({ frames := 0, cells := 0, slots := 0, locals := 0 } : Room) s m args below meth c D cI cJ ad (MQ below (QlW D cI cJ ad Q) args s 0 0 (Fr ad)) 10 28 [(4, .long x4_28), (6, .long x6_28)] m28 := by
        intro x4_28 x6_28 m28 hL
        refine hL (fun x4_28 x6_28 m28 => Wc p l e ({ frames := 0, cells := 0, slots := 0, locals := 0 } : Room) s m args below meth c D cI cJ ad (MQ below (QlW D cI cJ ad Q) args s 0 0 (Fr ad)) 10 28 [(4, .long x4_28), (6, .long x6_28)] m28) ?_
        intro J_28 hJ_28 x4_28 x6_28 m28 hF H locs ls hP hS hl
        unfold bX7_common_28 at hF
        refine lv_lload hx hb dX7_common_28 (lv_at hl 1 rfl) ?_
        refine lv_lconst (v := 0) hx hb dX7_common_30 (by decide) ?_
        refine W.lcmp hx hb dX7_common_31 ?_
        refine lv_if_eq (tgt := 53) hx hb dX7_common_32 (by decide) (fun c_8 => ?_) (fun c_8 => ?_)
        · have hF := hF.1 (lc_eq.mp c_8)
          refine lv_lload hx hb dX7_common_53 (lv_at hl 0 rfl) ?_
          exact retL S hr hlocks hP hS hF dX7_common_55
        · have hF := hF.2 (fun q => c_8 (lc_eq.mpr q))
          refine lv_lload hx hb dX7_common_35 (lv_at hl 0 rfl) ?_
          refine lv_lload hx hb dX7_common_37 (lv_at hl 1 rfl) ?_
          obtain ⟨hz_9, hF⟩ := hF
          refine lv_lrem hx hb dX7_common_39 hz_9 ?_
          refine lv_lstore (lv' := [(8, .long (x4_28 - x4_28 / x6_28 * x6_28)), (4, .long x4_28), (6, .long x6_28)]) hx hb dX7_common_40 hl (by decide) rfl (fun ls hl => ?_)
          refine lv_lload hx hb dX7_common_42 (lv_at hl 2 rfl) ?_
          refine lv_lstore (lv' := [(4, .long x6_28), (8, .long (x4_28 - x4_28 / x6_28 * x6_28)), (6, .long x6_28)]) hx hb dX7_common_44 hl (by decide) rfl (fun ls hl => ?_)
          refine lv_lload hx hb dX7_common_46 (lv_at hl 1 rfl) ?_
          refine lv_lstore (lv' := [(6, .long (x4_28 - x4_28 / x6_28 * x6_28)), (4, .long x6_28), (8, .long (x4_28 - x4_28 / x6_28 * x6_28))]) hx hb dX7_common_48 hl (by decide) rfl (fun ls hl => ?_)
          refine lv_goto (tgt := 28) hx hb dX7_common_50 (by decide) ?_
          exact hJ_28 _ _ _ hF _ _ _ hP hS (lv_sub hl [1, 0] rfl)
      exact key_28 _ _ _ hF _ _ _ hP hS (lv_sub hl [1, 0] rfl)
    · have hF := hF.2 (fun q => c_7 (lc_ge.mpr q))
      refine lv_lload_n hx hb dX7_common_20 rfl (lv_at hl 2 rfl) ?_
      refine lv_lneg hx hb dX7_common_21 ?_
      refine lv_goto (tgt := 26) hx hb dX7_common_22 (by decide) ?_
      refine lv_lstore (lv' := [(6, .long (-a2)), (4, .long (-a0)), (0, .long a0), (2, .long a2)]) hx hb dX7_common_26 hl (by decide) rfl (fun ls hl => ?_)
      have key_28 : ∀ (x4_28 : Int64) (x6_28 : Int64) (m28 : Mm), (lX7_common_28 Q x4_28 x6_28 m28) → Wc p l e ({ frames := 0, cells := 0, slots := 0, locals := 0 } : Room) s m args below meth c D cI cJ ad (MQ below (QlW D cI cJ ad Q) args s 0 0 (Fr ad)) 10 28 [(4, .long x4_28), (6, .long x6_28)] m28 := by
        intro x4_28 x6_28 m28 hL
        refine hL (fun x4_28 x6_28 m28 => Wc p l e ({ frames := 0, cells := 0, slots := 0, locals := 0 } : Room) s m args below meth c D cI cJ ad (MQ below (QlW D cI cJ ad Q) args s 0 0 (Fr ad)) 10 28 [(4, .long x4_28), (6, .long x6_28)] m28) ?_
        intro J_28 hJ_28 x4_28 x6_28 m28 hF H locs ls hP hS hl
        unfold bX7_common_28 at hF
        refine lv_lload hx hb dX7_common_28 (lv_at hl 1 rfl) ?_
        refine lv_lconst (v := 0) hx hb dX7_common_30 (by decide) ?_
        refine W.lcmp hx hb dX7_common_31 ?_
        refine lv_if_eq (tgt := 53) hx hb dX7_common_32 (by decide) (fun c_10 => ?_) (fun c_10 => ?_)
        · have hF := hF.1 (lc_eq.mp c_10)
          refine lv_lload hx hb dX7_common_53 (lv_at hl 0 rfl) ?_
          exact retL S hr hlocks hP hS hF dX7_common_55
        · have hF := hF.2 (fun q => c_10 (lc_eq.mpr q))
          refine lv_lload hx hb dX7_common_35 (lv_at hl 0 rfl) ?_
          refine lv_lload hx hb dX7_common_37 (lv_at hl 1 rfl) ?_
          obtain ⟨hz_11, hF⟩ := hF
          refine lv_lrem hx hb dX7_common_39 hz_11 ?_
          refine lv_lstore (lv' := [(8, .long (x4_28 - x4_28 / x6_28 * x6_28)), (4, .long x4_28), (6, .long x6_28)]) hx hb dX7_common_40 hl (by decide) rfl (fun ls hl => ?_)
          refine lv_lload hx hb dX7_common_42 (lv_at hl 2 rfl) ?_
          refine lv_lstore (lv' := [(4, .long x6_28), (8, .long (x4_28 - x4_28 / x6_28 * x6_28)), (6, .long x6_28)]) hx hb dX7_common_44 hl (by decide) rfl (fun ls hl => ?_)
          refine lv_lload hx hb dX7_common_46 (lv_at hl 1 rfl) ?_
          refine lv_lstore (lv' := [(6, .long (x4_28 - x4_28 / x6_28 * x6_28)), (4, .long x6_28), (8, .long (x4_28 - x4_28 / x6_28 * x6_28))]) hx hb dX7_common_48 hl (by decide) rfl (fun ls hl => ?_)
          refine lv_goto (tgt := 28) hx hb dX7_common_50 (by decide) ?_
          exact hJ_28 _ _ _ hF _ _ _ hP hS (lv_sub hl [1, 0] rfl)
      exact key_28 _ _ _ hF _ _ _ hP hS (lv_sub hl [1, 0] rfl)
def wX7_share (a1 : Int64) (a3 : Int64) (Q : Mm → Prop) (M : Mm) : Prop := (wX7_common a1 a3 (fun r_1 M_1 => (¬ r_1 = 0 ∧ (∀ M_3 : Mm, M_3 = (sj M_1 4 (a1 / r_1)) → (¬ r_1 = 0 ∧ (∀ M_5 : Mm, M_5 = (sj M_3 5 (a3 / r_1)) → (Q M_5)))))) M)
set_option maxHeartbeats 4000000 in
set_option maxRecDepth 100000 in
theorem ctX7_share (l : Launch) (D : va_G) (cI cJ : ClassId) (ad : Nat → Nat) (had : inj54 ad) (a1 : Int64) (a3 : Int64) (Q : Mm → Prop) (M : Mm) (hF : wX7_share a1 a3 Q M) : Met l yX7_share wsX7_share ({ frames := 1, cells := 0, slots := 0, locals := 29 } : Room) (PcW D cI cJ ad M [.ref (ad 32), .long a1, .long a3]) (QvW D cI cJ ad Q) 0 0 (Fr ad) := by
  refine entW (y := yX7_share) (ret := none) (maxL := 7) (plainFor_of_name (by decide)) rfl (Nat.le_of_ble_eq_true rfl) ?_
  intro p e s m args below meth c ls S hK hr hlocks hP hS hl
  have hx := S.1
  have hb := S.2.1
  have hown := S.2.2.2.1
  have hts := S.2.2.2.2
  have i7 : ∀ w ∈ wsX70, w ∈ wsX7_share := by decide +kernel
  have k84 := hts (.fieldLink RX7 84 "RopeLineModel" "up" "J") (by decide +kernel)
  have k88 := hts (.fieldLink RX7 88 "RopeLineModel" "down" "J") (by decide +kernel)
  have hl : lv_has ls 7 [(0, .ref (ad 32)), (1, .long a1), (3, .long a3)] := hl
  unfold wX7_share at hF
  refine lv_lload_n hx hb dX7_share_0 rfl (lv_at hl 1 rfl) ?_
  refine lv_lload_n hx hb dX7_share_1 rfl (lv_at hl 2 rfl) ?_
  refine goL (rS (rest := []) S hK hP (ctX7_common l D cI cJ ad had a1 a3 _ _ hF) (va_cwS 2 hts gX7_share_X7_common rfl rfl rfl hdS_X7_common ⟨Nat.le_of_ble_eq_true rfl, Nat.le_of_ble_eq_true rfl⟩) rfl hl.1 rfl (Nat.le_of_ble_eq_true rfl) dX7_share_2 ⟨Nat.zero_le _, Nat.zero_le _⟩) hS (fun _ h => h) (fun r_1 M_1 H locs hP hS hF => ?_)
  refine lv_lstore (lv' := [(5, .long r_1), (0, .ref (ad 32)), (1, .long a1), (3, .long a3)]) hx hb dX7_share_5 hl (by decide) rfl (fun ls hl => ?_)
  refine lv_aload_n hx hb dX7_share_7 rfl (lv_at hl 1 rfl) ?_
  refine lv_lload_n hx hb dX7_share_8 rfl (lv_at hl 2 rfl) ?_
  refine lv_lload hx hb dX7_share_9 (lv_at hl 0 rfl) ?_
  obtain ⟨hz_2, hF⟩ := hF
  refine lv_ldiv hx hb dX7_share_11 hz_2 ?_
  refine pF S hK had hP hS i7 tyX7_ok nmX7 e_M rfl 2 (by decide) k84 rfl rfl rfl (Nat.lt_of_lt_of_eq (by decide) len_M.symm) s_M_up dX7_share_12 (fun M_3 H locs eM_3 hP hS => ?_)
  have hF := hF M_3 eM_3
  refine lv_aload_n hx hb dX7_share_15 rfl (lv_at hl 1 rfl) ?_
  refine lv_lload_n hx hb dX7_share_16 rfl (lv_at hl 3 rfl) ?_
  refine lv_lload hx hb dX7_share_17 (lv_at hl 0 rfl) ?_
  obtain ⟨hz_4, hF⟩ := hF
  refine lv_ldiv hx hb dX7_share_19 hz_4 ?_
  refine pF S hK had hP hS i7 tyX7_ok nmX7 e_M rfl 3 (by decide) k88 rfl rfl rfl (Nat.lt_of_lt_of_eq (by decide) len_M.symm) s_M_down dX7_share_20 (fun M_5 H locs eM_5 hP hS => ?_)
  have hF := hF M_5 eM_5
  exact retV S hr hlocks hP hS hF dX7_share_23
def wX7_told (a1 : Int32) (Q : Int64 → Mm → Prop) (M : Mm) : Prop := ((a1 = 0 → (Q (gj M 4) M)) ∧ (¬ a1 = 0 → (Q (gj M 5) M)))
set_option maxHeartbeats 4000000 in
set_option maxRecDepth 100000 in
theorem ctX7_told (l : Launch) (D : va_G) (cI cJ : ClassId) (ad : Nat → Nat) (had : inj54 ad) (a1 : Int32) (Q : Int64 → Mm → Prop) (M : Mm) (hF : wX7_told a1 Q M) : Met l yX7_told wsX7_told ({ frames := 0, cells := 0, slots := 0, locals := 0 } : Room) (PcW D cI cJ ad M [.ref (ad 32), .int a1]) (QlW D cI cJ ad Q) 0 0 (Fr ad) := by
  refine entW (y := yX7_told) (ret := some .long) (maxL := 2) (plainFor_of_name (by decide)) rfl (Nat.le_of_ble_eq_true rfl) ?_
  intro p e s m args below meth c ls S hK hr hlocks hP hS hl
  have hx := S.1
  have hb := S.2.1
  have hown := S.2.2.2.1
  have hts := S.2.2.2.2
  have i7 : ∀ w ∈ wsX70, w ∈ wsX7_told := by decide +kernel
  have k88 := hts (.fieldLink RX7 88 "RopeLineModel" "down" "J") (by decide +kernel)
  have k84 := hts (.fieldLink RX7 84 "RopeLineModel" "up" "J") (by decide +kernel)
  have hl : lv_has ls 2 [(0, .ref (ad 32)), (1, .int a1)] := hl
  unfold wX7_told at hF
  refine lv_iload_n hx hb dX7_told_0 rfl (lv_at hl 1 rfl) ?_
  refine lv_if_ne (tgt := 11) hx hb dX7_told_1 (by decide) (fun c_1 => ?_) (fun c_1 => ?_)
  · have hF := hF.2 c_1
    refine lv_aload_n hx hb dX7_told_11 rfl (lv_at hl 0 rfl) ?_
    refine gF S hK hP i7 e_M rfl 3 (by decide) k88 f_M_down dX7_told_12 ?_
    exact retL S hr hlocks hP hS hF dX7_told_15
  · have hF := hF.1 c_1
    refine lv_aload_n hx hb dX7_told_4 rfl (lv_at hl 0 rfl) ?_
    refine gF S hK hP i7 e_M rfl 2 (by decide) k84 f_M_up dX7_told_5 ?_
    refine lv_goto (tgt := 15) hx hb dX7_told_8 (by decide) ?_
    exact retL S hr hlocks hP hS hF dX7_told_15
def wX7_isWhich (a0 : Int32) (Q : Int32 → Mm → Prop) (M : Mm) : Prop := ((a0 = 0 → (Q (1 : Int32) M)) ∧ (¬ a0 = 0 → ((a0 = (1 : Int32) → (Q (1 : Int32) M)) ∧ (¬ a0 = (1 : Int32) → (Q (0 : Int32) M)))))
set_option maxHeartbeats 4000000 in
set_option maxRecDepth 100000 in
theorem ctX7_isWhich (l : Launch) (D : va_G) (cI cJ : ClassId) (ad : Nat → Nat) (had : inj54 ad) (a0 : Int32) (Q : Int32 → Mm → Prop) (M : Mm) (hF : wX7_isWhich a0 Q M) : Met l yX7_isWhich wsX7_isWhich ({ frames := 0, cells := 0, slots := 0, locals := 0 } : Room) (PcW D cI cJ ad M [.int a0]) (QzW D cI cJ ad Q) 0 0 (Fr ad) := by
  refine entW (y := yX7_isWhich) (ret := some .boolean) (maxL := 1) (plainFor_of_name (by decide)) rfl (Nat.le_of_ble_eq_true rfl) ?_
  intro p e s m args below meth c ls S hK hr hlocks hP hS hl
  have hx := S.1
  have hb := S.2.1
  have hown := S.2.2.2.1
  have hts := S.2.2.2.2
  have hl : lv_has ls 1 [(0, .int a0)] := hl
  unfold wX7_isWhich at hF
  refine lv_iload_n hx hb dX7_isWhich_0 rfl (lv_at hl 0 rfl) ?_
  refine lv_if_eq (tgt := 9) hx hb dX7_isWhich_1 (by decide) (fun c_1 => ?_) (fun c_1 => ?_)
  · have hF := hF.1 c_1
    refine lv_iconst (v := 1) hx hb dX7_isWhich_9 (by decide) ?_
    refine lv_goto (tgt := 14) hx hb dX7_isWhich_10 (by decide) ?_
    exact retZ S hr hlocks hP hS rfl hF dX7_isWhich_14
  · have hF := hF.2 c_1
    refine lv_iload_n hx hb dX7_isWhich_4 rfl (lv_at hl 0 rfl) ?_
    refine lv_iconst (v := 1) hx hb dX7_isWhich_5 (by decide) ?_
    refine lv_icmp_ne (tgt := 13) hx hb dX7_isWhich_6 (by decide) (fun c_2 => ?_) (fun c_2 => ?_)
    · have hF := hF.2 c_2
      refine lv_iconst (v := 0) hx hb dX7_isWhich_13 (by decide) ?_
      exact retZ S hr hlocks hP hS rfl hF dX7_isWhich_14
    · have hF := hF.1 c_2
      refine lv_iconst (v := 1) hx hb dX7_isWhich_9 (by decide) ?_
      refine lv_goto (tgt := 14) hx hb dX7_isWhich_10 (by decide) ?_
      exact retZ S hr hlocks hP hS rfl hF dX7_isWhich_14
def wX7_whole (a0 : Int64) (a2 : Int64) (Q : Int64 → Mm → Prop) (M : Mm) : Prop := (¬ a2 = 0 ∧ (¬ a2 = 0 ∧ (((0 : Int64) ≤ (a0 - a0 / a2 * a2) → (Q (a0 / a2) M)) ∧ (¬ (0 : Int64) ≤ (a0 - a0 / a2 * a2) → (Q ((a0 / a2) - (1 : Int64)) M)))))
set_option maxHeartbeats 4000000 in
set_option maxRecDepth 100000 in
theorem ctX7_whole (l : Launch) (D : va_G) (cI cJ : ClassId) (ad : Nat → Nat) (had : inj54 ad) (a0 : Int64) (a2 : Int64) (Q : Int64 → Mm → Prop) (M : Mm) (hF : wX7_whole a0 a2 Q M) : Met l yX7_whole wsX7_whole ({ frames := 0, cells := 0, slots := 0, locals := 0 } : Room) (PcW D cI cJ ad M [.long a0, .long a2]) (QlW D cI cJ ad Q) 0 0 (Fr ad) := by
  refine entW (y := yX7_whole) (ret := some .long) (maxL := 6) (plainFor_of_name (by decide)) rfl (Nat.le_of_ble_eq_true rfl) ?_
  intro p e s m args below meth c ls S hK hr hlocks hP hS hl
  have hx := S.1
  have hb := S.2.1
  have hown := S.2.2.2.1
  have hts := S.2.2.2.2
  have hl : lv_has ls 6 [(0, .long a0), (2, .long a2)] := hl
  unfold wX7_whole at hF
  refine lv_lload_n hx hb dX7_whole_0 rfl (lv_at hl 0 rfl) ?_
  refine lv_lload_n hx hb dX7_whole_1 rfl (lv_at hl 1 rfl) ?_
  obtain ⟨hz_1, hF⟩ := hF
  refine lv_ldiv hx hb dX7_whole_2 hz_1 ?_
  refine lv_lstore (lv' := [(4, .long (a0 / a2)), (0, .long a0), (2, .long a2)]) hx hb dX7_whole_3 hl (by decide) rfl (fun ls hl => ?_)
  refine lv_lload_n hx hb dX7_whole_5 rfl (lv_at hl 1 rfl) ?_
  refine lv_lload_n hx hb dX7_whole_6 rfl (lv_at hl 2 rfl) ?_
  obtain ⟨hz_2, hF⟩ := hF
  refine lv_lrem hx hb dX7_whole_7 hz_2 ?_
  refine lv_lconst (v := 0) hx hb dX7_whole_8 (by decide) ?_
  refine W.lcmp hx hb dX7_whole_9 ?_
  refine lv_if_ge (tgt := 20) hx hb dX7_whole_10 (by decide) (fun c_3 => ?_) (fun c_3 => ?_)
  · have hF := hF.1 (lc_ge.mp c_3)
    refine lv_lload hx hb dX7_whole_20 (lv_at hl 0 rfl) ?_
    exact retL S hr hlocks hP hS hF dX7_whole_22
  · have hF := hF.2 (fun q => c_3 (lc_ge.mpr q))
    refine lv_lload hx hb dX7_whole_13 (lv_at hl 0 rfl) ?_
    refine lv_lconst (v := 1) hx hb dX7_whole_15 (by decide) ?_
    refine lv_lsub hx hb dX7_whole_16 ?_
    refine lv_goto (tgt := 22) hx hb dX7_whole_17 (by decide) ?_
    exact retL S hr hlocks hP hS hF dX7_whole_22
def bX7_compare_17 (Q : Int32 → Mm → Prop) (J_17 : Int64 → Int64 → Int64 → Int64 → Int32 → Mm → Prop) (x8_17 : Int64) (x10_17 : Int64) (x12_17 : Int64) (x14_17 : Int64) (x16_17 : Int32) (m17 : Mm) : Prop := (wX7_whole x8_17 x10_17 (fun r_1 M_1 => (wX7_whole x12_17 x14_17 (fun r_2 M_2 => ((r_1 = r_2 → (((x8_17 - (r_1 * x10_17)) = (0 : Int64) → (((x8_17 - (r_1 * x10_17)) = (x12_17 - (r_2 * x14_17)) → (Q (0 : Int32) M_2)) ∧ (¬ (x8_17 - (r_1 * x10_17)) = (x12_17 - (r_2 * x14_17)) → (((x8_17 - (r_1 * x10_17)) = (0 : Int64) → (Q (-x16_17) M_2)) ∧ (¬ (x8_17 - (r_1 * x10_17)) = (0 : Int64) → (Q x16_17 M_2)))))) ∧ (¬ (x8_17 - (r_1 * x10_17)) = (0 : Int64) → (((x12_17 - (r_2 * x14_17)) = (0 : Int64) → (((x8_17 - (r_1 * x10_17)) = (x12_17 - (r_2 * x14_17)) → (Q (0 : Int32) M_2)) ∧ (¬ (x8_17 - (r_1 * x10_17)) = (x12_17 - (r_2 * x14_17)) → (((x8_17 - (r_1 * x10_17)) = (0 : Int64) → (Q (-x16_17) M_2)) ∧ (¬ (x8_17 - (r_1 * x10_17)) = (0 : Int64) → (Q x16_17 M_2)))))) ∧ (¬ (x12_17 - (r_2 * x14_17)) = (0 : Int64) → (J_17 x10_17 (x8_17 - (r_1 * x10_17)) x14_17 (x12_17 - (r_2 * x14_17)) (-x16_17) M_2)))))) ∧ (¬ r_1 = r_2 → ((r_1 ≤ r_2 → (Q (-x16_17) M_2)) ∧ (¬ r_1 ≤ r_2 → (Q x16_17 M_2)))))) M_1)) m17)
def lX7_compare_17 (Q : Int32 → Mm → Prop) (x8_17 : Int64) (x10_17 : Int64) (x12_17 : Int64) (x14_17 : Int64) (x16_17 : Int32) (m17 : Mm) : Prop := ∀ I : Int64 → Int64 → Int64 → Int64 → Int32 → Mm → Prop, (∀ J : Int64 → Int64 → Int64 → Int64 → Int32 → Mm → Prop, (∀ (x8_17 : Int64) (x10_17 : Int64) (x12_17 : Int64) (x14_17 : Int64) (x16_17 : Int32) (m : Mm), J x8_17 x10_17 x12_17 x14_17 x16_17 m → I x8_17 x10_17 x12_17 x14_17 x16_17 m) → ∀ (x8_17 : Int64) (x10_17 : Int64) (x12_17 : Int64) (x14_17 : Int64) (x16_17 : Int32) (m : Mm), bX7_compare_17 Q J x8_17 x10_17 x12_17 x14_17 x16_17 m → I x8_17 x10_17 x12_17 x14_17 x16_17 m) → I x8_17 x10_17 x12_17 x14_17 x16_17 m17
theorem lX7_compare_17_mk (Q : Int32 → Mm → Prop) (x8_17 : Int64) (x10_17 : Int64) (x12_17 : Int64) (x14_17 : Int64) (x16_17 : Int32) (m17 : Mm) (h : bX7_compare_17 Q (lX7_compare_17 Q) x8_17 x10_17 x12_17 x14_17 x16_17 m17) : lX7_compare_17 Q x8_17 x10_17 x12_17 x14_17 x16_17 m17 := fun I hI => hI (lX7_compare_17 Q) (fun _ _ _ _ _ _ q => q I hI) _ _ _ _ _ _ h
def wX7_compare (a0 : Int64) (a2 : Int64) (a4 : Int64) (a6 : Int64) (Q : Int32 → Mm → Prop) (M : Mm) : Prop := (lX7_compare_17 Q a0 a2 a4 a6 (1 : Int32) M)
set_option maxHeartbeats 4000000 in
set_option maxRecDepth 100000 in
theorem ctX7_compare (l : Launch) (D : va_G) (cI cJ : ClassId) (ad : Nat → Nat) (had : inj54 ad) (a0 : Int64) (a2 : Int64) (a4 : Int64) (a6 : Int64) (Q : Int32 → Mm → Prop) (M : Mm) (hF : wX7_compare a0 a2 a4 a6 Q M) : Met l yX7_compare wsX7_compare ({ frames := 1, cells := 0, slots := 0, locals := 25 } : Room) (PcW D cI cJ ad M [.long a0, .long a2, .long a4, .long a6]) (QiW D cI cJ ad Q) 0 0 (Fr ad) := by
  refine entW (y := yX7_compare) (ret := some .int) (maxL := 23) (plainFor_of_name (by decide)) rfl (Nat.le_of_ble_eq_true rfl) ?_
  intro p e s m args below meth c ls S hK hr hlocks hP hS hl
  have hx := S.1
  have hb := S.2.1
  have hown := S.2.2.2.1
  have hts := S.2.2.2.2
  have hl : lv_has ls 23 [(0, .long a0), (2, .long a2), (4, .long a4), (6, .long a6)] := hl
  unfold wX7_compare at hF
  refine lv_lload_n hx hb dX7_compare_0 rfl (lv_at hl 0 rfl) ?_
  refine lv_lstore (lv' := [(8, .long a0), (0, .long a0), (2, .long a2), (4, .long a4), (6, .long a6)]) hx hb dX7_compare_1 hl (by decide) rfl (fun ls hl => ?_)
  refine lv_lload_n hx hb dX7_compare_3 rfl (lv_at hl 2 rfl) ?_
  refine lv_lstore (lv' := [(10, .long a2), (8, .long a0), (0, .long a0), (2, .long a2), (4, .long a4), (6, .long a6)]) hx hb dX7_compare_4 hl (by decide) rfl (fun ls hl => ?_)
  refine lv_lload hx hb dX7_compare_6 (lv_at hl 4 rfl) ?_
  refine lv_lstore (lv' := [(12, .long a4), (10, .long a2), (8, .long a0), (0, .long a0), (2, .long a2), (4, .long a4), (6, .long a6)]) hx hb dX7_compare_8 hl (by decide) rfl (fun ls hl => ?_)
  refine lv_lload hx hb dX7_compare_10 (lv_at hl 6 rfl) ?_
  refine lv_lstore (lv' := [(14, .long a6), (12, .long a4), (10, .long a2), (8, .long a0), (0, .long a0), (2, .long a2), (4, .long a4), (6, .long a6)]) hx hb dX7_compare_12 hl (by decide) rfl (fun ls hl => ?_)
  refine lv_iconst (v := 1) hx hb dX7_compare_14 (by decide) ?_
  refine lv_istore (lv' := [(16, .int (1 : Int32)), (14, .long a6), (12, .long a4), (10, .long a2), (8, .long a0), (0, .long a0), (2, .long a2), (4, .long a4), (6, .long a6)]) hx hb dX7_compare_15 hl (by decide) rfl (fun ls hl => ?_)
  have key_17 : ∀ (x8_17 : Int64) (x10_17 : Int64) (x12_17 : Int64) (x14_17 : Int64) (x16_17 : Int32) (m17 : Mm), (lX7_compare_17 Q x8_17 x10_17 x12_17 x14_17 x16_17 m17) → Wc p l e ({ frames := 1, cells := 0, slots := 0, locals := 25 } : Room) s m args below meth c D cI cJ ad (MQ below (QiW D cI cJ ad Q) args s 0 0 (Fr ad)) 23 17 [(8, .long x8_17), (10, .long x10_17), (12, .long x12_17), (14, .long x14_17), (16, .int x16_17)] m17 := by
    intro x8_17 x10_17 x12_17 x14_17 x16_17 m17 hL
    refine hL (fun x8_17 x10_17 x12_17 x14_17 x16_17 m17 => Wc p l e ({ frames := 1, cells := 0, slots := 0, locals := 25 } : Room) s m args below meth c D cI cJ ad (MQ below (QiW D cI cJ ad Q) args s 0 0 (Fr ad)) 23 17 [(8, .long x8_17), (10, .long x10_17), (12, .long x12_17), (14, .long x14_17), (16, .int x16_17)] m17) ?_
    intro J_17 hJ_17 x8_17 x10_17 x12_17 x14_17 x16_17 m17 hF H locs ls hP hS hl
    unfold bX7_compare_17 at hF
    refine lv_lload hx hb dX7_compare_17 (lv_at hl 0 rfl) ?_
    refine lv_lload hx hb dX7_compare_19 (lv_at hl 1 rfl) ?_
    refine goL (rS (rest := []) S hK hP (ctX7_whole l D cI cJ ad had x8_17 x10_17 _ _ hF) (va_cwS 2 hts gX7_compare_X7_whole rfl rfl rfl hdS_X7_whole ⟨Nat.le_of_ble_eq_true rfl, Nat.le_of_ble_eq_true rfl⟩) rfl hl.1 rfl (Nat.le_of_ble_eq_true rfl) dX7_compare_21 ⟨Nat.zero_le _, Nat.zero_le _⟩) hS (fun _ h => h) (fun r_1 M_1 H locs hP hS hF => ?_)
    refine lv_lstore (lv' := [(17, .long r_1), (8, .long x8_17), (10, .long x10_17), (12, .long x12_17), (14, .long x14_17), (16, .int x16_17)]) hx hb dX7_compare_24 hl (by decide) rfl (fun ls hl => ?_)
    refine lv_lload hx hb dX7_compare_26 (lv_at hl 3 rfl) ?_
    refine lv_lload hx hb dX7_compare_28 (lv_at hl 4 rfl) ?_
    refine goL (rS (rest := []) S hK hP (ctX7_whole l D cI cJ ad had x12_17 x14_17 _ _ hF) (va_cwS 2 hts gX7_compare_X7_whole rfl rfl rfl hdS_X7_whole ⟨Nat.le_of_ble_eq_true rfl, Nat.le_of_ble_eq_true rfl⟩) rfl hl.1 rfl (Nat.le_of_ble_eq_true rfl) dX7_compare_30 ⟨Nat.zero_le _, Nat.zero_le _⟩) hS (fun _ h => h) (fun r_2 M_2 H locs hP hS hF => ?_)
    refine lv_lstore (lv' := [(19, .long r_2), (17, .long r_1), (8, .long x8_17), (10, .long x10_17), (12, .long x12_17), (14, .long x14_17), (16, .int x16_17)]) hx hb dX7_compare_33 hl (by decide) rfl (fun ls hl => ?_)
    refine lv_lload hx hb dX7_compare_35 (lv_at hl 1 rfl) ?_
    refine lv_lload hx hb dX7_compare_37 (lv_at hl 0 rfl) ?_
    refine W.lcmp hx hb dX7_compare_39 ?_
    refine lv_if_eq (tgt := 60) hx hb dX7_compare_40 (by decide) (fun c_3 => ?_) (fun c_3 => ?_)
    · have hF := hF.1 (lc_eq.mp c_3)
      refine lv_lload hx hb dX7_compare_60 (lv_at hl 2 rfl) ?_
      refine lv_lload hx hb dX7_compare_62 (lv_at hl 1 rfl) ?_
      refine lv_lload hx hb dX7_compare_64 (lv_at hl 3 rfl) ?_
      refine lv_lmul hx hb dX7_compare_66 ?_
      refine lv_lsub hx hb dX7_compare_67 ?_
      refine lv_lstore (lv' := [(8, .long (x8_17 - (r_1 * x10_17))), (19, .long r_2), (17, .long r_1), (10, .long x10_17), (12, .long x12_17), (14, .long x14_17), (16, .int x16_17)]) hx hb dX7_compare_68 hl (by decide) rfl (fun ls hl => ?_)
      refine lv_lload hx hb dX7_compare_70 (lv_at hl 4 rfl) ?_
      refine lv_lload hx hb dX7_compare_72 (lv_at hl 1 rfl) ?_
      refine lv_lload hx hb dX7_compare_74 (lv_at hl 5 rfl) ?_
      refine lv_lmul hx hb dX7_compare_76 ?_
      refine lv_lsub hx hb dX7_compare_77 ?_
      refine lv_lstore (lv' := [(12, .long (x12_17 - (r_2 * x14_17))), (8, .long (x8_17 - (r_1 * x10_17))), (19, .long r_2), (17, .long r_1), (10, .long x10_17), (14, .long x14_17), (16, .int x16_17)]) hx hb dX7_compare_78 hl (by decide) rfl (fun ls hl => ?_)
      refine lv_lload hx hb dX7_compare_80 (lv_at hl 1 rfl) ?_
      refine lv_lconst (v := 0) hx hb dX7_compare_82 (by decide) ?_
      refine W.lcmp hx hb dX7_compare_83 ?_
      refine lv_if_eq (tgt := 94) hx hb dX7_compare_84 (by decide) (fun c_4 => ?_) (fun c_4 => ?_)
      · have hF := hF.1 (lc_eq.mp c_4)
        refine lv_lload hx hb dX7_compare_94 (lv_at hl 1 rfl) ?_
        refine lv_lload hx hb dX7_compare_96 (lv_at hl 0 rfl) ?_
        refine W.lcmp hx hb dX7_compare_98 ?_
        refine lv_if_ne (tgt := 106) hx hb dX7_compare_99 (by decide) (fun c_5 => ?_) (fun c_5 => ?_)
        · have hF := hF.2 (fun q => c_5 (lc_eq.mpr q))
          refine lv_lload hx hb dX7_compare_106 (lv_at hl 1 rfl) ?_
          refine lv_lconst (v := 0) hx hb dX7_compare_108 (by decide) ?_
          refine W.lcmp hx hb dX7_compare_109 ?_
          refine lv_if_ne (tgt := 119) hx hb dX7_compare_110 (by decide) (fun c_6 => ?_) (fun c_6 => ?_)
          · have hF := hF.2 (fun q => c_6 (lc_eq.mpr q))
            refine lv_iload hx hb dX7_compare_119 (lv_at hl 6 rfl) ?_
            exact retI S hr hlocks hP hS hF dX7_compare_121
          · have hF := hF.1 (lc_eq.mp c_6)
            refine lv_iload hx hb dX7_compare_113 (lv_at hl 6 rfl) ?_
            refine lv_ineg hx hb dX7_compare_115 ?_
            refine lv_goto (tgt := 121) hx hb dX7_compare_116 (by decide) ?_
            exact retI S hr hlocks hP hS hF dX7_compare_121
        · have hF := hF.1 (lc_eq.mp c_5)
          refine lv_iconst (v := 0) hx hb dX7_compare_102 (by decide) ?_
          refine lv_goto (tgt := 121) hx hb dX7_compare_103 (by decide) ?_
          exact retI S hr hlocks hP hS hF dX7_compare_121
      · have hF := hF.2 (fun q => c_4 (lc_eq.mpr q))
        refine lv_lload hx hb dX7_compare_87 (lv_at hl 0 rfl) ?_
        refine lv_lconst (v := 0) hx hb dX7_compare_89 (by decide) ?_
        refine W.lcmp hx hb dX7_compare_90 ?_
        refine lv_if_ne (tgt := 122) hx hb dX7_compare_91 (by decide) (fun c_7 => ?_) (fun c_7 => ?_)
        · have hF := hF.2 (fun q => c_7 (lc_eq.mpr q))
          refine lv_lload hx hb dX7_compare_122 (lv_at hl 1 rfl) ?_
          refine lv_lstore (lv' := [(21, .long (x8_17 - (r_1 * x10_17))), (12, .long (x12_17 - (r_2 * x14_17))), (8, .long (x8_17 - (r_1 * x10_17))), (19, .long r_2), (17, .long r_1), (10, .long x10_17), (14, .long x14_17), (16, .int x16_17)]) hx hb dX7_compare_124 hl (by decide) rfl (fun ls hl => ?_)
          refine lv_lload hx hb dX7_compare_126 (lv_at hl 5 rfl) ?_
          refine lv_lstore (lv' := [(8, .long x10_17), (21, .long (x8_17 - (r_1 * x10_17))), (12, .long (x12_17 - (r_2 * x14_17))), (19, .long r_2), (17, .long r_1), (10, .long x10_17), (14, .long x14_17), (16, .int x16_17)]) hx hb dX7_compare_128 hl (by decide) rfl (fun ls hl => ?_)
          refine lv_lload hx hb dX7_compare_130 (lv_at hl 1 rfl) ?_
          refine lv_lstore (lv' := [(10, .long (x8_17 - (r_1 * x10_17))), (8, .long x10_17), (21, .long (x8_17 - (r_1 * x10_17))), (12, .long (x12_17 - (r_2 * x14_17))), (19, .long r_2), (17, .long r_1), (14, .long x14_17), (16, .int x16_17)]) hx hb dX7_compare_132 hl (by decide) rfl (fun ls hl => ?_)
          refine lv_lload hx hb dX7_compare_134 (lv_at hl 3 rfl) ?_
          refine lv_lstore (lv' := [(21, .long (x12_17 - (r_2 * x14_17))), (10, .long (x8_17 - (r_1 * x10_17))), (8, .long x10_17), (12, .long (x12_17 - (r_2 * x14_17))), (19, .long r_2), (17, .long r_1), (14, .long x14_17), (16, .int x16_17)]) hx hb dX7_compare_136 hl (by decide) rfl (fun ls hl => ?_)
          refine lv_lload hx hb dX7_compare_138 (lv_at hl 6 rfl) ?_
          refine lv_lstore (lv' := [(12, .long x14_17), (21, .long (x12_17 - (r_2 * x14_17))), (10, .long (x8_17 - (r_1 * x10_17))), (8, .long x10_17), (19, .long r_2), (17, .long r_1), (14, .long x14_17), (16, .int x16_17)]) hx hb dX7_compare_140 hl (by decide) rfl (fun ls hl => ?_)
          refine lv_lload hx hb dX7_compare_142 (lv_at hl 1 rfl) ?_
          refine lv_lstore (lv' := [(14, .long (x12_17 - (r_2 * x14_17))), (12, .long x14_17), (21, .long (x12_17 - (r_2 * x14_17))), (10, .long (x8_17 - (r_1 * x10_17))), (8, .long x10_17), (19, .long r_2), (17, .long r_1), (16, .int x16_17)]) hx hb dX7_compare_144 hl (by decide) rfl (fun ls hl => ?_)
          refine lv_iload hx hb dX7_compare_146 (lv_at hl 7 rfl) ?_
          refine lv_ineg hx hb dX7_compare_148 ?_
          refine lv_istore (lv' := [(16, .int (-x16_17)), (14, .long (x12_17 - (r_2 * x14_17))), (12, .long x14_17), (21, .long (x12_17 - (r_2 * x14_17))), (10, .long (x8_17 - (r_1 * x10_17))), (8, .long x10_17), (19, .long r_2), (17, .long r_1)]) hx hb dX7_compare_149 hl (by decide) rfl (fun ls hl => ?_)
          refine lv_goto (tgt := 17) hx hb dX7_compare_151 (by decide) ?_
          exact hJ_17 _ _ _ _ _ _ hF _ _ _ hP hS (lv_sub hl [5, 4, 2, 1, 0] rfl)
        · have hF := hF.1 (lc_eq.mp c_7)
          refine lv_lload hx hb dX7_compare_94 (lv_at hl 1 rfl) ?_
          refine lv_lload hx hb dX7_compare_96 (lv_at hl 0 rfl) ?_
          refine W.lcmp hx hb dX7_compare_98 ?_
          refine lv_if_ne (tgt := 106) hx hb dX7_compare_99 (by decide) (fun c_8 => ?_) (fun c_8 => ?_)
          · have hF := hF.2 (fun q => c_8 (lc_eq.mpr q))
            refine lv_lload hx hb dX7_compare_106 (lv_at hl 1 rfl) ?_
            refine lv_lconst (v := 0) hx hb dX7_compare_108 (by decide) ?_
            refine W.lcmp hx hb dX7_compare_109 ?_
            refine lv_if_ne (tgt := 119) hx hb dX7_compare_110 (by decide) (fun c_9 => ?_) (fun c_9 => ?_)
            · have hF := hF.2 (fun q => c_9 (lc_eq.mpr q))
              refine lv_iload hx hb dX7_compare_119 (lv_at hl 6 rfl) ?_
              exact retI S hr hlocks hP hS hF dX7_compare_121
            · have hF := hF.1 (lc_eq.mp c_9)
              refine lv_iload hx hb dX7_compare_113 (lv_at hl 6 rfl) ?_
              refine lv_ineg hx hb dX7_compare_115 ?_
              refine lv_goto (tgt := 121) hx hb dX7_compare_116 (by decide) ?_
              exact retI S hr hlocks hP hS hF dX7_compare_121
          · have hF := hF.1 (lc_eq.mp c_8)
            refine lv_iconst (v := 0) hx hb dX7_compare_102 (by decide) ?_
            refine lv_goto (tgt := 121) hx hb dX7_compare_103 (by decide) ?_
            exact retI S hr hlocks hP hS hF dX7_compare_121
    · have hF := hF.2 (fun q => c_3 (lc_eq.mpr q))
      refine lv_lload hx hb dX7_compare_43 (lv_at hl 1 rfl) ?_
      refine lv_lload hx hb dX7_compare_45 (lv_at hl 0 rfl) ?_
      refine W.lcmp hx hb dX7_compare_47 ?_
      refine lv_if_le (tgt := 56) hx hb dX7_compare_48 (by decide) (fun c_10 => ?_) (fun c_10 => ?_)
      · have hF := hF.1 (lc_le.mp c_10)
        refine lv_iload hx hb dX7_compare_56 (lv_at hl 6 rfl) ?_
        refine lv_ineg hx hb dX7_compare_58 ?_
        exact retI S hr hlocks hP hS hF dX7_compare_59
      · have hF := hF.2 (fun q => c_10 (lc_le.mpr q))
        refine lv_iload hx hb dX7_compare_51 (lv_at hl 6 rfl) ?_
        refine lv_goto (tgt := 59) hx hb dX7_compare_53 (by decide) ?_
        exact retI S hr hlocks hP hS hF dX7_compare_59
  exact key_17 _ _ _ _ _ _ hF _ _ _ hP hS (lv_sub hl [4, 3, 2, 1, 0] rfl)
def wX7_isSheet (a0 : Int32) (Q : Int32 → Mm → Prop) (M : Mm) : Prop := (wX7_within a0 (0 : Int32) (3 : Int32) (fun r_1 M_1 => (Q r_1 M_1)) M)
set_option maxHeartbeats 4000000 in
set_option maxRecDepth 100000 in
theorem ctX7_isSheet (l : Launch) (D : va_G) (cI cJ : ClassId) (ad : Nat → Nat) (had : inj54 ad) (a0 : Int32) (Q : Int32 → Mm → Prop) (M : Mm) (hF : wX7_isSheet a0 Q M) : Met l yX7_isSheet wsX7_isSheet ({ frames := 1, cells := 0, slots := 0, locals := 22 } : Room) (PcW D cI cJ ad M [.int a0]) (QzW D cI cJ ad Q) 0 0 (Fr ad) := by
  refine entW (y := yX7_isSheet) (ret := some .boolean) (maxL := 1) (plainFor_of_name (by decide)) rfl (Nat.le_of_ble_eq_true rfl) ?_
  intro p e s m args below meth c ls S hK hr hlocks hP hS hl
  have hx := S.1
  have hb := S.2.1
  have hown := S.2.2.2.1
  have hts := S.2.2.2.2
  have hl : lv_has ls 1 [(0, .int a0)] := hl
  unfold wX7_isSheet at hF
  refine lv_iload_n hx hb dX7_isSheet_0 rfl (lv_at hl 0 rfl) ?_
  refine lv_iconst (v := 0) hx hb dX7_isSheet_1 (by decide) ?_
  refine lv_iconst (v := 3) hx hb dX7_isSheet_2 (by decide) ?_
  refine goZ (rS (rest := []) S hK hP (ctX7_within l D cI cJ ad had a0 (0 : Int32) (3 : Int32) _ _ hF) (va_cwS 3 hts gX7_isSheet_X7_within rfl rfl rfl hdS_X7_within ⟨Nat.le_of_ble_eq_true rfl, Nat.le_of_ble_eq_true rfl⟩) rfl hl.1 rfl (Nat.le_of_ble_eq_true rfl) dX7_isSheet_3 ⟨Nat.zero_le _, Nat.zero_le _⟩) hS (fun _ h => h) (fun r_1 M_1 H locs hP hS hz_r_1 hF => ?_)
  exact retZ S hr hlocks hP hS hz_r_1 hF dX7_isSheet_6
def wX7_isLane (a0 : Int32) (Q : Int32 → Mm → Prop) (M : Mm) : Prop := (wX7_within a0 (0 : Int32) (2 : Int32) (fun r_1 M_1 => (Q r_1 M_1)) M)
set_option maxHeartbeats 4000000 in
set_option maxRecDepth 100000 in
theorem ctX7_isLane (l : Launch) (D : va_G) (cI cJ : ClassId) (ad : Nat → Nat) (had : inj54 ad) (a0 : Int32) (Q : Int32 → Mm → Prop) (M : Mm) (hF : wX7_isLane a0 Q M) : Met l yX7_isLane wsX7_isLane ({ frames := 1, cells := 0, slots := 0, locals := 22 } : Room) (PcW D cI cJ ad M [.int a0]) (QzW D cI cJ ad Q) 0 0 (Fr ad) := by
  refine entW (y := yX7_isLane) (ret := some .boolean) (maxL := 1) (plainFor_of_name (by decide)) rfl (Nat.le_of_ble_eq_true rfl) ?_
  intro p e s m args below meth c ls S hK hr hlocks hP hS hl
  have hx := S.1
  have hb := S.2.1
  have hown := S.2.2.2.1
  have hts := S.2.2.2.2
  have hl : lv_has ls 1 [(0, .int a0)] := hl
  unfold wX7_isLane at hF
  refine lv_iload_n hx hb dX7_isLane_0 rfl (lv_at hl 0 rfl) ?_
  refine lv_iconst (v := 0) hx hb dX7_isLane_1 (by decide) ?_
  refine lv_iconst (v := 2) hx hb dX7_isLane_2 (by decide) ?_
  refine goZ (rS (rest := []) S hK hP (ctX7_within l D cI cJ ad had a0 (0 : Int32) (2 : Int32) _ _ hF) (va_cwS 3 hts gX7_isLane_X7_within rfl rfl rfl hdS_X7_within ⟨Nat.le_of_ble_eq_true rfl, Nat.le_of_ble_eq_true rfl⟩) rfl hl.1 rfl (Nat.le_of_ble_eq_true rfl) dX7_isLane_3 ⟨Nat.zero_le _, Nat.zero_le _⟩) hS (fun _ h => h) (fun r_1 M_1 H locs hP hS hz_r_1 hF => ?_)
  exact retZ S hr hlocks hP hS hz_r_1 hF dX7_isLane_6
def wX7_codeAt (Q : Int32 → Mm → Prop) (M : Mm) : Prop := (((gi M 36) ≤ (gi M 35) → (Q (-9 : Int32) M)) ∧ (¬ (gi M 36) ≤ (gi M 35) → (vp_in (gi M 35) 240 ∧ (Q (ga M 35 (gi M 35).toNatClampNeg) M))))
set_option maxHeartbeats 4000000 in
set_option maxRecDepth 100000 in
theorem ctX7_codeAt (l : Launch) (D : va_G) (cI cJ : ClassId) (ad : Nat → Nat) (had : inj54 ad)  (Q : Int32 → Mm → Prop) (M : Mm) (hF : wX7_codeAt Q M) : Met l yX7_codeAt wsX7_codeAt ({ frames := 0, cells := 0, slots := 0, locals := 0 } : Room) (PcW D cI cJ ad M [.ref (ad 32)]) (QiW D cI cJ ad Q) 0 0 (Fr ad) := by
  refine entW (y := yX7_codeAt) (ret := some .int) (maxL := 1) (plainFor_of_name (by decide)) rfl (Nat.le_of_ble_eq_true rfl) ?_
  intro p e s m args below meth c ls S hK hr hlocks hP hS hl
  have hx := S.1
  have hb := S.2.1
  have hown := S.2.2.2.1
  have hts := S.2.2.2.2
  have i7 : ∀ w ∈ wsX70, w ∈ wsX7_codeAt := by decide +kernel
  have k98 := hts (.fieldLink RX7 98 "RopeLineModel" "at" "I") (by decide +kernel)
  have k101 := hts (.fieldLink RX7 101 "RopeLineModel" "end" "I") (by decide +kernel)
  have k16 := hts (.fieldLink RX7 16 "RopeLineModel" "cells" "[I") (by decide +kernel)
  have hl : lv_has ls 1 [(0, .ref (ad 32))] := hl
  unfold wX7_codeAt at hF
  refine lv_aload_n hx hb dX7_codeAt_0 rfl (lv_at hl 0 rfl) ?_
  refine gF S hK hP i7 e_M rfl 17 (by decide) k98 f_M_at dX7_codeAt_1 ?_
  refine lv_aload_n hx hb dX7_codeAt_4 rfl (lv_at hl 0 rfl) ?_
  refine gF S hK hP i7 e_M rfl 18 (by decide) k101 f_M_end dX7_codeAt_5 ?_
  refine lv_icmp_ge (tgt := 23) hx hb dX7_codeAt_8 (by decide) (fun c_1 => ?_) (fun c_1 => ?_)
  · have hF := hF.1 c_1
    refine lv_bipush (v := -9) hx hb dX7_codeAt_23 (by decide) ?_
    exact retI S hr hlocks hP hS hF dX7_codeAt_25
  · have hF := hF.2 c_1
    refine lv_aload_n hx hb dX7_codeAt_11 rfl (lv_at hl 0 rfl) ?_
    refine gF S hK hP i7 e_M rfl 6 (by decide) k16 f_M_cells dX7_codeAt_12 ?_
    refine lv_aload_n hx hb dX7_codeAt_15 rfl (lv_at hl 0 rfl) ?_
    refine gF S hK hP i7 e_M rfl 17 (by decide) k98 f_M_at dX7_codeAt_16 ?_
    obtain ⟨hb_2, hF⟩ := hF
    refine ldA S hK hP (k := 35) rfl hb_2 dX7_codeAt_19 ?_
    refine lv_goto (tgt := 25) hx hb dX7_codeAt_20 (by decide) ?_
    exact retI S hr hlocks hP hS hF dX7_codeAt_25
def wX7_readsLetter (a1 : Int32) (Q : Int32 → Mm → Prop) (M : Mm) : Prop := (wX7_codeAt (fun r_1 M_1 => ((r_1 = a1 → (∀ M_3 : Mm, M_3 = (si M_1 35 ((gi M_1 35) + (1 : Int32))) → (Q (1 : Int32) M_3))) ∧ (¬ r_1 = a1 → (Q (0 : Int32) M_1)))) M)
set_option maxHeartbeats 4000000 in
set_option maxRecDepth 100000 in
theorem ctX7_readsLetter (l : Launch) (D : va_G) (cI cJ : ClassId) (ad : Nat → Nat) (had : inj54 ad) (a1 : Int32) (Q : Int32 → Mm → Prop) (M : Mm) (hF : wX7_readsLetter a1 Q M) : Met l yX7_readsLetter wsX7_readsLetter ({ frames := 1, cells := 0, slots := 0, locals := 20 } : Room) (PcW D cI cJ ad M [.ref (ad 32), .int a1]) (QzW D cI cJ ad Q) 0 0 (Fr ad) := by
  refine entW (y := yX7_readsLetter) (ret := some .boolean) (maxL := 2) (plainFor_of_name (by decide)) rfl (Nat.le_of_ble_eq_true rfl) ?_
  intro p e s m args below meth c ls S hK hr hlocks hP hS hl
  have hx := S.1
  have hb := S.2.1
  have hown := S.2.2.2.1
  have hts := S.2.2.2.2
  have i7 : ∀ w ∈ wsX70, w ∈ wsX7_readsLetter := by decide +kernel
  have k98 := hts (.fieldLink RX7 98 "RopeLineModel" "at" "I") (by decide +kernel)
  have hl : lv_has ls 2 [(0, .ref (ad 32)), (1, .int a1)] := hl
  unfold wX7_readsLetter at hF
  refine lv_aload_n hx hb dX7_readsLetter_0 rfl (lv_at hl 0 rfl) ?_
  refine goI (rV (rest := []) S hK hP (ctX7_codeAt l D cI cJ ad had  _ _ hF) (cwV 0 hts gX7_readsLetter_X7_codeAt rfl rfl rfl hdV_X7_codeAt ⟨Nat.le_of_ble_eq_true rfl, Nat.le_of_ble_eq_true rfl⟩) e_M rfl rfl hl.1 rfl (Nat.le_of_ble_eq_true rfl) dX7_readsLetter_1 ⟨Nat.zero_le _, Nat.zero_le _⟩) hS (fun _ h => h) (fun r_1 M_1 H locs hP hS hF => ?_)
  refine lv_iload_n hx hb dX7_readsLetter_4 rfl (lv_at hl 1 rfl) ?_
  refine lv_icmp_eq (tgt := 10) hx hb dX7_readsLetter_5 (by decide) (fun c_2 => ?_) (fun c_2 => ?_)
  · have hF := hF.1 c_2
    refine lv_aload_n hx hb dX7_readsLetter_10 rfl (lv_at hl 0 rfl) ?_
    refine lv_dup hx hb dX7_readsLetter_11 rfl ?_
    refine gF S hK hP i7 e_M rfl 17 (by decide) k98 f_M_at dX7_readsLetter_12 ?_
    refine lv_iconst (v := 1) hx hb dX7_readsLetter_15 (by decide) ?_
    refine lv_iadd hx hb dX7_readsLetter_16 ?_
    refine pF S hK had hP hS i7 tyX7_ok nmX7 e_M rfl 17 (by decide) k98 rfl rfl rfl (Nat.lt_of_lt_of_eq (by decide) len_M.symm) s_M_at dX7_readsLetter_17 (fun M_3 H locs eM_3 hP hS => ?_)
    have hF := hF M_3 eM_3
    refine lv_iconst (v := 1) hx hb dX7_readsLetter_20 (by decide) ?_
    exact retZ S hr hlocks hP hS rfl hF dX7_readsLetter_21
  · have hF := hF.2 c_2
    refine lv_iconst (v := 0) hx hb dX7_readsLetter_8 (by decide) ?_
    exact retZ S hr hlocks hP hS rfl hF dX7_readsLetter_9
def bX7_readsNumber_8 (a1 : Int32) (a2 : Int32) (y3_8 : Int32) (Q : Int32 → Mm → Prop) (J_8 : Int32 → Mm → Prop) (x4_8 : Int32) (m8 : Mm) : Prop := (((y3_8 + (3 : Int32)) ≤ (gi m8 35) → (((gi m8 35) = y3_8 → (∀ M_3 : Mm, M_3 = (si m8 35 y3_8) → (Q (-9 : Int32) M_3))) ∧ (¬ (gi m8 35) = y3_8 → (wX7_within x4_8 a1 a2 (fun r_4 M_4 => ((r_4 = 0 → (∀ M_6 : Mm, M_6 = (si M_4 35 y3_8) → (Q (-9 : Int32) M_6))) ∧ (¬ r_4 = 0 → (Q x4_8 M_4)))) m8)))) ∧ (¬ (y3_8 + (3 : Int32)) ≤ (gi m8 35) → (wX7_codeAt (fun r_7 M_7 => (wX7_within r_7 (48 : Int32) (57 : Int32) (fun r_8 M_8 => ((r_8 = 0 → (((gi M_8 35) = y3_8 → (∀ M_11 : Mm, M_11 = (si M_8 35 y3_8) → (Q (-9 : Int32) M_11))) ∧ (¬ (gi M_8 35) = y3_8 → (wX7_within x4_8 a1 a2 (fun r_12 M_12 => ((r_12 = 0 → (∀ M_14 : Mm, M_14 = (si M_12 35 y3_8) → (Q (-9 : Int32) M_14))) ∧ (¬ r_12 = 0 → (Q x4_8 M_12)))) M_8)))) ∧ (¬ r_8 = 0 → (wX7_codeAt (fun r_15 M_15 => (∀ M_16 : Mm, M_16 = (si M_15 35 ((gi M_15 35) + (1 : Int32))) → (J_8 ((((10 : Int32) * x4_8) + r_15) - (48 : Int32)) M_16))) M_8)))) M_7)) m8)))
def lX7_readsNumber_8 (a1 : Int32) (a2 : Int32) (y3_8 : Int32) (Q : Int32 → Mm → Prop) (x4_8 : Int32) (m8 : Mm) : Prop := ∀ I : Int32 → Mm → Prop, (∀ J : Int32 → Mm → Prop, (∀ (x4_8 : Int32) (m : Mm), J x4_8 m → I x4_8 m) → ∀ (x4_8 : Int32) (m : Mm), bX7_readsNumber_8 a1 a2 y3_8 Q J x4_8 m → I x4_8 m) → I x4_8 m8
theorem lX7_readsNumber_8_mk (a1 : Int32) (a2 : Int32) (y3_8 : Int32) (Q : Int32 → Mm → Prop) (x4_8 : Int32) (m8 : Mm) (h : bX7_readsNumber_8 a1 a2 y3_8 Q (lX7_readsNumber_8 a1 a2 y3_8 Q) x4_8 m8) : lX7_readsNumber_8 a1 a2 y3_8 Q x4_8 m8 := fun I hI => hI (lX7_readsNumber_8 a1 a2 y3_8 Q) (fun _ _ q => q I hI) _ _ h
def wX7_readsNumber (a1 : Int32) (a2 : Int32) (Q : Int32 → Mm → Prop) (M : Mm) : Prop := (lX7_readsNumber_8 a1 a2 (gi M 35) Q (0 : Int32) M)
set_option maxHeartbeats 4000000 in
set_option maxRecDepth 100000 in
theorem ctX7_readsNumber (l : Launch) (D : va_G) (cI cJ : ClassId) (ad : Nat → Nat) (had : inj54 ad) (a1 : Int32) (a2 : Int32) (Q : Int32 → Mm → Prop) (M : Mm) (hF : wX7_readsNumber a1 a2 Q M) : Met l yX7_readsNumber wsX7_readsNumber ({ frames := 1, cells := 0, slots := 0, locals := 22 } : Room) (PcW D cI cJ ad M [.ref (ad 32), .int a1, .int a2]) (QiW D cI cJ ad Q) 0 0 (Fr ad) := by
  refine entW (y := yX7_readsNumber) (ret := some .int) (maxL := 5) (plainFor_of_name (by decide)) rfl (Nat.le_of_ble_eq_true rfl) ?_
  intro p e s m args below meth c ls S hK hr hlocks hP hS hl
  have hx := S.1
  have hb := S.2.1
  have hown := S.2.2.2.1
  have hts := S.2.2.2.2
  have i7 : ∀ w ∈ wsX70, w ∈ wsX7_readsNumber := by decide +kernel
  have k98 := hts (.fieldLink RX7 98 "RopeLineModel" "at" "I") (by decide +kernel)
  have hl : lv_has ls 5 [(0, .ref (ad 32)), (1, .int a1), (2, .int a2)] := hl
  unfold wX7_readsNumber at hF
  refine lv_aload_n hx hb dX7_readsNumber_0 rfl (lv_at hl 0 rfl) ?_
  refine gF S hK hP i7 e_M rfl 17 (by decide) k98 f_M_at dX7_readsNumber_1 ?_
  refine lv_istore_n (lv' := [(3, .int (gi M 35)), (0, .ref (ad 32)), (1, .int a1), (2, .int a2)]) hx hb dX7_readsNumber_4 rfl hl (by decide) rfl (fun ls hl => ?_)
  refine lv_iconst (v := 0) hx hb dX7_readsNumber_5 (by decide) ?_
  refine lv_istore (lv' := [(4, .int (0 : Int32)), (3, .int (gi M 35)), (0, .ref (ad 32)), (1, .int a1), (2, .int a2)]) hx hb dX7_readsNumber_6 hl (by decide) rfl (fun ls hl => ?_)
  have key_8 : ∀ (y3_8 : Int32) (x4_8 : Int32) (m8 : Mm), (lX7_readsNumber_8 a1 a2 y3_8 Q x4_8 m8) → Wc p l e ({ frames := 1, cells := 0, slots := 0, locals := 22 } : Room) s m args below meth c D cI cJ ad (MQ below (QiW D cI cJ ad Q) args s 0 0 (Fr ad)) 5 8 [(0, .ref (ad 32)), (1, .int a1), (2, .int a2), (3, .int y3_8), (4, .int x4_8)] m8 := by
    intro y3_8 x4_8 m8 hL
    refine hL (fun x4_8 m8 => Wc p l e ({ frames := 1, cells := 0, slots := 0, locals := 22 } : Room) s m args below meth c D cI cJ ad (MQ below (QiW D cI cJ ad Q) args s 0 0 (Fr ad)) 5 8 [(0, .ref (ad 32)), (1, .int a1), (2, .int a2), (3, .int y3_8), (4, .int x4_8)] m8) ?_
    intro J_8 hJ_8 x4_8 m8 hF H locs ls hP hS hl
    unfold bX7_readsNumber_8 at hF
    refine lv_aload_n hx hb dX7_readsNumber_8 rfl (lv_at hl 0 rfl) ?_
    refine gF S hK hP i7 e_M rfl 17 (by decide) k98 f_M_at dX7_readsNumber_9 ?_
    refine lv_iload_n hx hb dX7_readsNumber_12 rfl (lv_at hl 3 rfl) ?_
    refine lv_iconst (v := 3) hx hb dX7_readsNumber_13 (by decide) ?_
    refine lv_iadd hx hb dX7_readsNumber_14 ?_
    refine lv_icmp_ge (tgt := 60) hx hb dX7_readsNumber_15 (by decide) (fun c_1 => ?_) (fun c_1 => ?_)
    · have hF := hF.1 c_1
      refine lv_aload_n hx hb dX7_readsNumber_60 rfl (lv_at hl 0 rfl) ?_
      refine gF S hK hP i7 e_M rfl 17 (by decide) k98 f_M_at dX7_readsNumber_61 ?_
      refine lv_iload_n hx hb dX7_readsNumber_64 rfl (lv_at hl 3 rfl) ?_
      refine lv_icmp_eq (tgt := 78) hx hb dX7_readsNumber_65 (by decide) (fun c_2 => ?_) (fun c_2 => ?_)
      · have hF := hF.1 c_2
        refine lv_aload_n hx hb dX7_readsNumber_78 rfl (lv_at hl 0 rfl) ?_
        refine lv_iload_n hx hb dX7_readsNumber_79 rfl (lv_at hl 3 rfl) ?_
        refine pF S hK had hP hS i7 tyX7_ok nmX7 e_M rfl 17 (by decide) k98 rfl rfl rfl (Nat.lt_of_lt_of_eq (by decide) len_M.symm) s_M_at dX7_readsNumber_80 (fun M_3 H locs eM_3 hP hS => ?_)
        have hF := hF M_3 eM_3
        refine lv_bipush (v := -9) hx hb dX7_readsNumber_83 (by decide) ?_
        exact retI S hr hlocks hP hS hF dX7_readsNumber_85
      · have hF := hF.2 c_2
        refine lv_iload hx hb dX7_readsNumber_68 (lv_at hl 4 rfl) ?_
        refine lv_iload_n hx hb dX7_readsNumber_70 rfl (lv_at hl 1 rfl) ?_
        refine lv_iload_n hx hb dX7_readsNumber_71 rfl (lv_at hl 2 rfl) ?_
        refine goZ (rS (rest := []) S hK hP (ctX7_within l D cI cJ ad had x4_8 a1 a2 _ _ hF) (va_cwS 3 hts gX7_readsNumber_X7_within rfl rfl rfl hdS_X7_within ⟨Nat.le_of_ble_eq_true rfl, Nat.le_of_ble_eq_true rfl⟩) rfl hl.1 rfl (Nat.le_of_ble_eq_true rfl) dX7_readsNumber_72 ⟨Nat.zero_le _, Nat.zero_le _⟩) hS (fun _ h => h) (fun r_4 M_4 H locs hP hS hz_r_4 hF => ?_)
        refine lv_if_ne (tgt := 86) hx hb dX7_readsNumber_75 (by decide) (fun c_5 => ?_) (fun c_5 => ?_)
        · have hF := hF.2 c_5
          refine lv_iload hx hb dX7_readsNumber_86 (lv_at hl 4 rfl) ?_
          exact retI S hr hlocks hP hS hF dX7_readsNumber_88
        · have hF := hF.1 c_5
          refine lv_aload_n hx hb dX7_readsNumber_78 rfl (lv_at hl 0 rfl) ?_
          refine lv_iload_n hx hb dX7_readsNumber_79 rfl (lv_at hl 3 rfl) ?_
          refine pF S hK had hP hS i7 tyX7_ok nmX7 e_M rfl 17 (by decide) k98 rfl rfl rfl (Nat.lt_of_lt_of_eq (by decide) len_M.symm) s_M_at dX7_readsNumber_80 (fun M_6 H locs eM_6 hP hS => ?_)
          have hF := hF M_6 eM_6
          refine lv_bipush (v := -9) hx hb dX7_readsNumber_83 (by decide) ?_
          exact retI S hr hlocks hP hS hF dX7_readsNumber_85
    · have hF := hF.2 c_1
      refine lv_aload_n hx hb dX7_readsNumber_18 rfl (lv_at hl 0 rfl) ?_
      refine goI (rV (rest := []) S hK hP (ctX7_codeAt l D cI cJ ad had  _ _ hF) (cwV 0 hts gX7_readsNumber_X7_codeAt rfl rfl rfl hdV_X7_codeAt ⟨Nat.le_of_ble_eq_true rfl, Nat.le_of_ble_eq_true rfl⟩) e_M rfl rfl hl.1 rfl (Nat.le_of_ble_eq_true rfl) dX7_readsNumber_19 ⟨Nat.zero_le _, Nat.zero_le _⟩) hS (fun _ h => h) (fun r_7 M_7 H locs hP hS hF => ?_)
      refine lv_bipush (v := 48) hx hb dX7_readsNumber_22 (by decide) ?_
      refine lv_bipush (v := 57) hx hb dX7_readsNumber_24 (by decide) ?_
      refine goZ (rS (rest := []) S hK hP (ctX7_within l D cI cJ ad had r_7 (48 : Int32) (57 : Int32) _ _ hF) (va_cwS 3 hts gX7_readsNumber_X7_within rfl rfl rfl hdS_X7_within ⟨Nat.le_of_ble_eq_true rfl, Nat.le_of_ble_eq_true rfl⟩) rfl hl.1 rfl (Nat.le_of_ble_eq_true rfl) dX7_readsNumber_26 ⟨Nat.zero_le _, Nat.zero_le _⟩) hS (fun _ h => h) (fun r_8 M_8 H locs hP hS hz_r_8 hF => ?_)
      refine lv_if_eq (tgt := 60) hx hb dX7_readsNumber_29 (by decide) (fun c_9 => ?_) (fun c_9 => ?_)
      · have hF := hF.1 c_9
        refine lv_aload_n hx hb dX7_readsNumber_60 rfl (lv_at hl 0 rfl) ?_
        refine gF S hK hP i7 e_M rfl 17 (by decide) k98 f_M_at dX7_readsNumber_61 ?_
        refine lv_iload_n hx hb dX7_readsNumber_64 rfl (lv_at hl 3 rfl) ?_
        refine lv_icmp_eq (tgt := 78) hx hb dX7_readsNumber_65 (by decide) (fun c_10 => ?_) (fun c_10 => ?_)
        · have hF := hF.1 c_10
          refine lv_aload_n hx hb dX7_readsNumber_78 rfl (lv_at hl 0 rfl) ?_
          refine lv_iload_n hx hb dX7_readsNumber_79 rfl (lv_at hl 3 rfl) ?_
          refine pF S hK had hP hS i7 tyX7_ok nmX7 e_M rfl 17 (by decide) k98 rfl rfl rfl (Nat.lt_of_lt_of_eq (by decide) len_M.symm) s_M_at dX7_readsNumber_80 (fun M_11 H locs eM_11 hP hS => ?_)
          have hF := hF M_11 eM_11
          refine lv_bipush (v := -9) hx hb dX7_readsNumber_83 (by decide) ?_
          exact retI S hr hlocks hP hS hF dX7_readsNumber_85
        · have hF := hF.2 c_10
          refine lv_iload hx hb dX7_readsNumber_68 (lv_at hl 4 rfl) ?_
          refine lv_iload_n hx hb dX7_readsNumber_70 rfl (lv_at hl 1 rfl) ?_
          refine lv_iload_n hx hb dX7_readsNumber_71 rfl (lv_at hl 2 rfl) ?_
          refine goZ (rS (rest := []) S hK hP (ctX7_within l D cI cJ ad had x4_8 a1 a2 _ _ hF) (va_cwS 3 hts gX7_readsNumber_X7_within rfl rfl rfl hdS_X7_within ⟨Nat.le_of_ble_eq_true rfl, Nat.le_of_ble_eq_true rfl⟩) rfl hl.1 rfl (Nat.le_of_ble_eq_true rfl) dX7_readsNumber_72 ⟨Nat.zero_le _, Nat.zero_le _⟩) hS (fun _ h => h) (fun r_12 M_12 H locs hP hS hz_r_12 hF => ?_)
          refine lv_if_ne (tgt := 86) hx hb dX7_readsNumber_75 (by decide) (fun c_13 => ?_) (fun c_13 => ?_)
          · have hF := hF.2 c_13
            refine lv_iload hx hb dX7_readsNumber_86 (lv_at hl 4 rfl) ?_
            exact retI S hr hlocks hP hS hF dX7_readsNumber_88
          · have hF := hF.1 c_13
            refine lv_aload_n hx hb dX7_readsNumber_78 rfl (lv_at hl 0 rfl) ?_
            refine lv_iload_n hx hb dX7_readsNumber_79 rfl (lv_at hl 3 rfl) ?_
            refine pF S hK had hP hS i7 tyX7_ok nmX7 e_M rfl 17 (by decide) k98 rfl rfl rfl (Nat.lt_of_lt_of_eq (by decide) len_M.symm) s_M_at dX7_readsNumber_80 (fun M_14 H locs eM_14 hP hS => ?_)
            have hF := hF M_14 eM_14
            refine lv_bipush (v := -9) hx hb dX7_readsNumber_83 (by decide) ?_
            exact retI S hr hlocks hP hS hF dX7_readsNumber_85
      · have hF := hF.2 c_9
        refine lv_bipush (v := 10) hx hb dX7_readsNumber_32 (by decide) ?_
        refine lv_iload hx hb dX7_readsNumber_34 (lv_at hl 4 rfl) ?_
        refine lv_imul hx hb dX7_readsNumber_36 ?_
        refine lv_aload_n hx hb dX7_readsNumber_37 rfl (lv_at hl 0 rfl) ?_
        refine goI (rV (rest := [.int ((10 : Int32) * x4_8)]) S hK hP (ctX7_codeAt l D cI cJ ad had  _ _ hF) (cwV 0 hts gX7_readsNumber_X7_codeAt rfl rfl rfl hdV_X7_codeAt ⟨Nat.le_of_ble_eq_true rfl, Nat.le_of_ble_eq_true rfl⟩) e_M rfl rfl hl.1 rfl (Nat.le_of_ble_eq_true rfl) dX7_readsNumber_38 ⟨Nat.zero_le _, Nat.zero_le _⟩) hS (fun _ h => h) (fun r_15 M_15 H locs hP hS hF => ?_)
        refine lv_iadd hx hb dX7_readsNumber_41 ?_
        refine lv_bipush (v := 48) hx hb dX7_readsNumber_42 (by decide) ?_
        refine lv_isub hx hb dX7_readsNumber_44 ?_
        refine lv_istore (lv' := [(4, .int ((((10 : Int32) * x4_8) + r_15) - (48 : Int32))), (0, .ref (ad 32)), (1, .int a1), (2, .int a2), (3, .int y3_8)]) hx hb dX7_readsNumber_45 hl (by decide) rfl (fun ls hl => ?_)
        refine lv_aload_n hx hb dX7_readsNumber_47 rfl (lv_at hl 1 rfl) ?_
        refine lv_dup hx hb dX7_readsNumber_48 rfl ?_
        refine gF S hK hP i7 e_M rfl 17 (by decide) k98 f_M_at dX7_readsNumber_49 ?_
        refine lv_iconst (v := 1) hx hb dX7_readsNumber_52 (by decide) ?_
        refine lv_iadd hx hb dX7_readsNumber_53 ?_
        refine pF S hK had hP hS i7 tyX7_ok nmX7 e_M rfl 17 (by decide) k98 rfl rfl rfl (Nat.lt_of_lt_of_eq (by decide) len_M.symm) s_M_at dX7_readsNumber_54 (fun M_16 H locs eM_16 hP hS => ?_)
        have hF := hF M_16 eM_16
        refine lv_goto (tgt := 8) hx hb dX7_readsNumber_57 (by decide) ?_
        exact hJ_8 _ _ hF _ _ _ hP hS (lv_sub hl [1, 2, 3, 4, 0] rfl)
  exact key_8 _ _ _ hF _ _ _ hP hS (lv_sub hl [2, 3, 4, 1, 0] rfl)
def bX7_readsSort_15 (Q : Int32 → Mm → Prop) (J_15 : Int32 → Int32 → Mm → Prop) (x1_15 : Int32) (x2_15 : Int32) (m15 : Mm) : Prop := (((gi m15 39) ≤ x2_15 → (wX7_readsNumber (1 : Int32) ((11 : Int32) - x1_15) (fun r_4 M_4 => ((r_4 = (-9 : Int32) → (Q (0 : Int32) M_4)) ∧ (¬ r_4 = (-9 : Int32) → (wX7_readsLetter (118 : Int32) (fun r_6 M_6 => ((r_6 = 0 → (Q (0 : Int32) M_6)) ∧ (¬ r_6 = 0 → (wX7_readsNumber (0 : Int32) (999 : Int32) (fun r_8 M_8 => ((r_8 = (-9 : Int32) → (Q (0 : Int32) M_8)) ∧ (¬ r_8 = (-9 : Int32) → (vp_in (gi M_8 39) 3 ∧ (∀ M_10 : Mm, M_10 = (sa M_8 39 (upd (ga M_8 39) (gi M_8 39).toNatClampNeg r_4)) → (vp_in (gi M_10 39) 3 ∧ (∀ M_12 : Mm, M_12 = (sa M_10 40 (upd (ga M_10 40) (gi M_10 39).toNatClampNeg r_8)) → (∀ M_14 : Mm, M_14 = (si M_12 39 ((gi M_12 39) + (1 : Int32))) → (Q (1 : Int32) M_14))))))))) M_6)))) M_4)))) m15)) ∧ (¬ (gi m15 39) ≤ x2_15 → (vp_in x2_15 3 ∧ (J_15 (x1_15 + (ga m15 39 x2_15.toNatClampNeg)) (x2_15 + 1) m15))))
def lX7_readsSort_15 (Q : Int32 → Mm → Prop) (x1_15 : Int32) (x2_15 : Int32) (m15 : Mm) : Prop := ∀ I : Int32 → Int32 → Mm → Prop, (∀ J : Int32 → Int32 → Mm → Prop, (∀ (x1_15 : Int32) (x2_15 : Int32) (m : Mm), J x1_15 x2_15 m → I x1_15 x2_15 m) → ∀ (x1_15 : Int32) (x2_15 : Int32) (m : Mm), bX7_readsSort_15 Q J x1_15 x2_15 m → I x1_15 x2_15 m) → I x1_15 x2_15 m15
theorem lX7_readsSort_15_mk (Q : Int32 → Mm → Prop) (x1_15 : Int32) (x2_15 : Int32) (m15 : Mm) (h : bX7_readsSort_15 Q (lX7_readsSort_15 Q) x1_15 x2_15 m15) : lX7_readsSort_15 Q x1_15 x2_15 m15 := fun I hI => hI (lX7_readsSort_15 Q) (fun _ _ _ q => q I hI) _ _ _ h
def wX7_readsSort (Q : Int32 → Mm → Prop) (M : Mm) : Prop := (wX7_readsLetter (115 : Int32) (fun r_1 M_1 => ((r_1 = 0 → (Q (0 : Int32) M_1)) ∧ (¬ r_1 = 0 → (lX7_readsSort_15 Q (0 : Int32) (0 : Int32) M_1)))) M)
set_option maxHeartbeats 4000000 in
set_option maxRecDepth 100000 in
theorem ctX7_readsSort (l : Launch) (D : va_G) (cI cJ : ClassId) (ad : Nat → Nat) (had : inj54 ad)  (Q : Int32 → Mm → Prop) (M : Mm) (hF : wX7_readsSort Q M) : Met l yX7_readsSort wsX7_readsSort ({ frames := 2, cells := 0, slots := 0, locals := 46 } : Room) (PcW D cI cJ ad M [.ref (ad 32)]) (QzW D cI cJ ad Q) 0 0 (Fr ad) := by
  refine entW (y := yX7_readsSort) (ret := some .boolean) (maxL := 4) (plainFor_of_name (by decide)) rfl (Nat.le_of_ble_eq_true rfl) ?_
  intro p e s m args below meth c ls S hK hr hlocks hP hS hl
  have hx := S.1
  have hb := S.2.1
  have hown := S.2.2.2.1
  have hts := S.2.2.2.2
  have i7 : ∀ w ∈ wsX70, w ∈ wsX7_readsSort := by decide +kernel
  have k112 := hts (.fieldLink RX7 112 "RopeLineModel" "readSorts" "I") (by decide +kernel)
  have k28 := hts (.fieldLink RX7 28 "RopeLineModel" "readTwelfths" "[I") (by decide +kernel)
  have k31 := hts (.fieldLink RX7 31 "RopeLineModel" "readWorths" "[I") (by decide +kernel)
  have hl : lv_has ls 4 [(0, .ref (ad 32))] := hl
  unfold wX7_readsSort at hF
  refine lv_aload_n hx hb dX7_readsSort_0 rfl (lv_at hl 0 rfl) ?_
  refine lv_bipush (v := 115) hx hb dX7_readsSort_1 (by decide) ?_
  refine goZ (rV (rest := []) S hK hP (ctX7_readsLetter l D cI cJ ad had (115 : Int32) _ _ hF) (cwV 1 hts gX7_readsSort_X7_readsLetter rfl rfl rfl hdV_X7_readsLetter ⟨Nat.le_of_ble_eq_true rfl, Nat.le_of_ble_eq_true rfl⟩) e_M rfl rfl hl.1 rfl (Nat.le_of_ble_eq_true rfl) dX7_readsSort_3 ⟨Nat.zero_le _, Nat.zero_le _⟩) hS (fun _ h => h) (fun r_1 M_1 H locs hP hS hz_r_1 hF => ?_)
  refine lv_if_ne (tgt := 11) hx hb dX7_readsSort_6 (by decide) (fun c_2 => ?_) (fun c_2 => ?_)
  · have hF := hF.2 c_2
    refine lv_iconst (v := 0) hx hb dX7_readsSort_11 (by decide) ?_
    refine lv_istore_n (lv' := [(1, .int (0 : Int32)), (0, .ref (ad 32))]) hx hb dX7_readsSort_12 rfl hl (by decide) rfl (fun ls hl => ?_)
    refine lv_iconst (v := 0) hx hb dX7_readsSort_13 (by decide) ?_
    refine lv_istore_n (lv' := [(2, .int (0 : Int32)), (1, .int (0 : Int32)), (0, .ref (ad 32))]) hx hb dX7_readsSort_14 rfl hl (by decide) rfl (fun ls hl => ?_)
    have key_15 : ∀ (x1_15 : Int32) (x2_15 : Int32) (m15 : Mm), (lX7_readsSort_15 Q x1_15 x2_15 m15) → Wc p l e ({ frames := 2, cells := 0, slots := 0, locals := 46 } : Room) s m args below meth c D cI cJ ad (MQ below (QzW D cI cJ ad Q) args s 0 0 (Fr ad)) 4 15 [(0, .ref (ad 32)), (1, .int x1_15), (2, .int x2_15)] m15 := by
      intro x1_15 x2_15 m15 hL
      refine hL (fun x1_15 x2_15 m15 => Wc p l e ({ frames := 2, cells := 0, slots := 0, locals := 46 } : Room) s m args below meth c D cI cJ ad (MQ below (QzW D cI cJ ad Q) args s 0 0 (Fr ad)) 4 15 [(0, .ref (ad 32)), (1, .int x1_15), (2, .int x2_15)] m15) ?_
      intro J_15 hJ_15 x1_15 x2_15 m15 hF H locs ls hP hS hl
      unfold bX7_readsSort_15 at hF
      refine lv_iload_n hx hb dX7_readsSort_15 rfl (lv_at hl 2 rfl) ?_
      refine lv_aload_n hx hb dX7_readsSort_16 rfl (lv_at hl 0 rfl) ?_
      refine gF S hK hP i7 e_M rfl 21 (by decide) k112 f_M_readSorts dX7_readsSort_17 ?_
      refine lv_icmp_ge (tgt := 38) hx hb dX7_readsSort_20 (by decide) (fun c_3 => ?_) (fun c_3 => ?_)
      · have hF := hF.1 c_3
        refine lv_aload_n hx hb dX7_readsSort_38 rfl (lv_at hl 0 rfl) ?_
        refine lv_iconst (v := 1) hx hb dX7_readsSort_39 (by decide) ?_
        refine lv_bipush (v := 11) hx hb dX7_readsSort_40 (by decide) ?_
        refine lv_iload_n hx hb dX7_readsSort_42 rfl (lv_at hl 1 rfl) ?_
        refine lv_isub hx hb dX7_readsSort_43 ?_
        refine goI (rV (rest := []) S hK hP (ctX7_readsNumber l D cI cJ ad had (1 : Int32) ((11 : Int32) - x1_15) _ _ hF) (cwV 2 hts gX7_readsSort_X7_readsNumber rfl rfl rfl hdV_X7_readsNumber ⟨Nat.le_of_ble_eq_true rfl, Nat.le_of_ble_eq_true rfl⟩) e_M rfl rfl hl.1 rfl (Nat.le_of_ble_eq_true rfl) dX7_readsSort_44 ⟨Nat.zero_le _, Nat.zero_le _⟩) hS (fun _ h => h) (fun r_4 M_4 H locs hP hS hF => ?_)
        refine lv_istore_n (lv' := [(2, .int r_4), (0, .ref (ad 32)), (1, .int x1_15)]) hx hb dX7_readsSort_47 rfl hl (by decide) rfl (fun ls hl => ?_)
        refine lv_iload_n hx hb dX7_readsSort_48 rfl (lv_at hl 0 rfl) ?_
        refine lv_bipush (v := -9) hx hb dX7_readsSort_49 (by decide) ?_
        refine lv_icmp_eq (tgt := 63) hx hb dX7_readsSort_51 (by decide) (fun c_5 => ?_) (fun c_5 => ?_)
        · have hF := hF.1 c_5
          refine lv_iconst (v := 0) hx hb dX7_readsSort_63 (by decide) ?_
          exact retZ S hr hlocks hP hS rfl hF dX7_readsSort_64
        · have hF := hF.2 c_5
          refine lv_aload_n hx hb dX7_readsSort_54 rfl (lv_at hl 1 rfl) ?_
          refine lv_bipush (v := 118) hx hb dX7_readsSort_55 (by decide) ?_
          refine goZ (rV (rest := []) S hK hP (ctX7_readsLetter l D cI cJ ad had (118 : Int32) _ _ hF) (cwV 1 hts gX7_readsSort_X7_readsLetter rfl rfl rfl hdV_X7_readsLetter ⟨Nat.le_of_ble_eq_true rfl, Nat.le_of_ble_eq_true rfl⟩) e_M rfl rfl hl.1 rfl (Nat.le_of_ble_eq_true rfl) dX7_readsSort_57 ⟨Nat.zero_le _, Nat.zero_le _⟩) hS (fun _ h => h) (fun r_6 M_6 H locs hP hS hz_r_6 hF => ?_)
          refine lv_if_ne (tgt := 65) hx hb dX7_readsSort_60 (by decide) (fun c_7 => ?_) (fun c_7 => ?_)
          · have hF := hF.2 c_7
            refine lv_aload_n hx hb dX7_readsSort_65 rfl (lv_at hl 1 rfl) ?_
            refine lv_iconst (v := 0) hx hb dX7_readsSort_66 (by decide) ?_
            refine lv_sipush (v := 999) hx hb dX7_readsSort_67 (by decide) ?_
            refine goI (rV (rest := []) S hK hP (ctX7_readsNumber l D cI cJ ad had (0 : Int32) (999 : Int32) _ _ hF) (cwV 2 hts gX7_readsSort_X7_readsNumber rfl rfl rfl hdV_X7_readsNumber ⟨Nat.le_of_ble_eq_true rfl, Nat.le_of_ble_eq_true rfl⟩) e_M rfl rfl hl.1 rfl (Nat.le_of_ble_eq_true rfl) dX7_readsSort_70 ⟨Nat.zero_le _, Nat.zero_le _⟩) hS (fun _ h => h) (fun r_8 M_8 H locs hP hS hF => ?_)
            refine lv_istore_n (lv' := [(3, .int r_8), (2, .int r_4), (0, .ref (ad 32)), (1, .int x1_15)]) hx hb dX7_readsSort_73 rfl hl (by decide) rfl (fun ls hl => ?_)
            refine lv_iload_n hx hb dX7_readsSort_74 rfl (lv_at hl 0 rfl) ?_
            refine lv_bipush (v := -9) hx hb dX7_readsSort_75 (by decide) ?_
            refine lv_icmp_ne (tgt := 82) hx hb dX7_readsSort_77 (by decide) (fun c_9 => ?_) (fun c_9 => ?_)
            · have hF := hF.2 c_9
              refine lv_aload_n hx hb dX7_readsSort_82 rfl (lv_at hl 2 rfl) ?_
              refine gF S hK hP i7 e_M rfl 22 (by decide) k28 f_M_readTwelfths dX7_readsSort_83 ?_
              refine lv_aload_n hx hb dX7_readsSort_86 rfl (lv_at hl 2 rfl) ?_
              refine gF S hK hP i7 e_M rfl 21 (by decide) k112 f_M_readSorts dX7_readsSort_87 ?_
              refine lv_iload_n hx hb dX7_readsSort_90 rfl (lv_at hl 1 rfl) ?_
              obtain ⟨hb_11, hF⟩ := hF
              refine stA S hK had hP hS (k := 39) rfl hb_11 dX7_readsSort_91 (fun M_10 H locs eM_10 hP hS => ?_)
              have hF := hF M_10 eM_10
              refine lv_aload_n hx hb dX7_readsSort_92 rfl (lv_at hl 2 rfl) ?_
              refine gF S hK hP i7 e_M rfl 23 (by decide) k31 f_M_readWorths dX7_readsSort_93 ?_
              refine lv_aload_n hx hb dX7_readsSort_96 rfl (lv_at hl 2 rfl) ?_
              refine gF S hK hP i7 e_M rfl 21 (by decide) k112 f_M_readSorts dX7_readsSort_97 ?_
              refine lv_iload_n hx hb dX7_readsSort_100 rfl (lv_at hl 0 rfl) ?_
              obtain ⟨hb_13, hF⟩ := hF
              refine stA S hK had hP hS (k := 40) rfl hb_13 dX7_readsSort_101 (fun M_12 H locs eM_12 hP hS => ?_)
              have hF := hF M_12 eM_12
              refine lv_aload_n hx hb dX7_readsSort_102 rfl (lv_at hl 2 rfl) ?_
              refine lv_dup hx hb dX7_readsSort_103 rfl ?_
              refine gF S hK hP i7 e_M rfl 21 (by decide) k112 f_M_readSorts dX7_readsSort_104 ?_
              refine lv_iconst (v := 1) hx hb dX7_readsSort_107 (by decide) ?_
              refine lv_iadd hx hb dX7_readsSort_108 ?_
              refine pF S hK had hP hS i7 tyX7_ok nmX7 e_M rfl 21 (by decide) k112 rfl rfl rfl (Nat.lt_of_lt_of_eq (by decide) len_M.symm) s_M_readSorts dX7_readsSort_109 (fun M_14 H locs eM_14 hP hS => ?_)
              have hF := hF M_14 eM_14
              refine lv_iconst (v := 1) hx hb dX7_readsSort_112 (by decide) ?_
              exact retZ S hr hlocks hP hS rfl hF dX7_readsSort_113
            · have hF := hF.1 c_9
              refine lv_iconst (v := 0) hx hb dX7_readsSort_80 (by decide) ?_
              exact retZ S hr hlocks hP hS rfl hF dX7_readsSort_81
          · have hF := hF.1 c_7
            refine lv_iconst (v := 0) hx hb dX7_readsSort_63 (by decide) ?_
            exact retZ S hr hlocks hP hS rfl hF dX7_readsSort_64
      · have hF := hF.2 c_3
        refine lv_iload_n hx hb dX7_readsSort_23 rfl (lv_at hl 1 rfl) ?_
        refine lv_aload_n hx hb dX7_readsSort_24 rfl (lv_at hl 0 rfl) ?_
        refine gF S hK hP i7 e_M rfl 22 (by decide) k28 f_M_readTwelfths dX7_readsSort_25 ?_
        refine lv_iload_n hx hb dX7_readsSort_28 rfl (lv_at hl 2 rfl) ?_
        obtain ⟨hb_15, hF⟩ := hF
        refine ldA S hK hP (k := 39) rfl hb_15 dX7_readsSort_29 ?_
        refine lv_iadd hx hb dX7_readsSort_30 ?_
        refine lv_istore_n (lv' := [(1, .int (x1_15 + (ga m15 39 x2_15.toNatClampNeg))), (0, .ref (ad 32)), (2, .int x2_15)]) hx hb dX7_readsSort_31 rfl hl (by decide) rfl (fun ls hl => ?_)
        refine lv_iinc (v := (x2_15 + 1)) (lv' := [(2, .int (x2_15 + 1)), (1, .int (x1_15 + (ga m15 39 x2_15.toNatClampNeg))), (0, .ref (ad 32))]) hx hb dX7_readsSort_32 hl (k := 2) rfl rfl (by decide) rfl (fun ls hl => ?_)
        refine lv_goto (tgt := 15) hx hb dX7_readsSort_35 (by decide) ?_
        exact hJ_15 _ _ _ hF _ _ _ hP hS (lv_sub hl [2, 1, 0] rfl)
    exact key_15 _ _ _ hF _ _ _ hP hS (lv_sub hl [2, 1, 0] rfl)
  · have hF := hF.1 c_2
    refine lv_iconst (v := 0) hx hb dX7_readsSort_9 (by decide) ?_
    exact retZ S hr hlocks hP hS rfl hF dX7_readsSort_10
def bX7_readsAll_78 (Q : Int32 → Mm → Prop) (J_78 : Mm → Prop) (m78 : Mm) : Prop := (((gi m78 36) ≤ (gi m78 35) → (Q (1 : Int32) m78)) ∧ (¬ (gi m78 36) ≤ (gi m78 35) → (wX7_codeAt (fun r_15 M_15 => ((r_15 = (59 : Int32) → (((gi M_15 39) = (3 : Int32) → (Q (0 : Int32) M_15)) ∧ (¬ (gi M_15 39) = (3 : Int32) → (∀ M_18 : Mm, M_18 = (si M_15 35 ((gi M_15 35) + (1 : Int32))) → (wX7_readsSort (fun r_19 M_19 => ((r_19 = 0 → (Q (0 : Int32) M_19)) ∧ (¬ r_19 = 0 → (J_78 M_19)))) M_18))))) ∧ (¬ r_15 = (59 : Int32) → (Q (0 : Int32) M_15)))) m78)))
def lX7_readsAll_78 (Q : Int32 → Mm → Prop) (m78 : Mm) : Prop := ∀ I : Mm → Prop, (∀ J : Mm → Prop, (∀ (m : Mm), J  m → I  m) → ∀ (m : Mm), bX7_readsAll_78 Q J  m → I  m) → I  m78
theorem lX7_readsAll_78_mk (Q : Int32 → Mm → Prop) (m78 : Mm) (h : bX7_readsAll_78 Q (lX7_readsAll_78 Q)  m78) : lX7_readsAll_78 Q  m78 := fun I hI => hI (lX7_readsAll_78 Q) (fun _ q => q I hI) _ h
def wX7_readsAll (Q : Int32 → Mm → Prop) (M : Mm) : Prop := (∀ M_1 : Mm, M_1 = (si M 39 (0 : Int32)) → (wX7_readsLetter (109 : Int32) (fun r_2 M_2 => ((r_2 = 0 → (Q (0 : Int32) M_2)) ∧ (¬ r_2 = 0 → (wX7_readsNumber (1 : Int32) (11 : Int32) (fun r_4 M_4 => (∀ M_5 : Mm, M_5 = (si M_4 37 r_4) → (((gi M_5 37) = (-9 : Int32) → (Q (0 : Int32) M_5)) ∧ (¬ (gi M_5 37) = (-9 : Int32) → (wX7_readsLetter (59 : Int32) (fun r_7 M_7 => ((r_7 = 0 → (Q (0 : Int32) M_7)) ∧ (¬ r_7 = 0 → (wX7_readsLetter (99 : Int32) (fun r_9 M_9 => ((r_9 = 0 → (Q (0 : Int32) M_9)) ∧ (¬ r_9 = 0 → (wX7_readsNumber (1 : Int32) (9 : Int32) (fun r_11 M_11 => (∀ M_12 : Mm, M_12 = (si M_11 38 r_11) → (((gi M_12 38) = (-9 : Int32) → (Q (0 : Int32) M_12)) ∧ (¬ (gi M_12 38) = (-9 : Int32) → (lX7_readsAll_78 Q M_12))))) M_9)))) M_7)))) M_5))))) M_2)))) M_1))
set_option maxHeartbeats 4000000 in
set_option maxRecDepth 100000 in
theorem ctX7_readsAll (l : Launch) (D : va_G) (cI cJ : ClassId) (ad : Nat → Nat) (had : inj54 ad)  (Q : Int32 → Mm → Prop) (M : Mm) (hF : wX7_readsAll Q M) : Met l yX7_readsAll wsX7_readsAll ({ frames := 3, cells := 0, slots := 0, locals := 69 } : Room) (PcW D cI cJ ad M [.ref (ad 32)]) (QzW D cI cJ ad Q) 0 0 (Fr ad) := by
  refine entW (y := yX7_readsAll) (ret := some .boolean) (maxL := 1) (plainFor_of_name (by decide)) rfl (Nat.le_of_ble_eq_true rfl) ?_
  intro p e s m args below meth c ls S hK hr hlocks hP hS hl
  have hx := S.1
  have hb := S.2.1
  have hown := S.2.2.2.1
  have hts := S.2.2.2.2
  have i7 : ∀ w ∈ wsX70, w ∈ wsX7_readsAll := by decide +kernel
  have k112 := hts (.fieldLink RX7 112 "RopeLineModel" "readSorts" "I") (by decide +kernel)
  have k119 := hts (.fieldLink RX7 119 "RopeLineModel" "readServed" "I") (by decide +kernel)
  have k122 := hts (.fieldLink RX7 122 "RopeLineModel" "readCost" "I") (by decide +kernel)
  have k98 := hts (.fieldLink RX7 98 "RopeLineModel" "at" "I") (by decide +kernel)
  have k101 := hts (.fieldLink RX7 101 "RopeLineModel" "end" "I") (by decide +kernel)
  have hl : lv_has ls 1 [(0, .ref (ad 32))] := hl
  unfold wX7_readsAll at hF
  refine lv_aload_n hx hb dX7_readsAll_0 rfl (lv_at hl 0 rfl) ?_
  refine lv_iconst (v := 0) hx hb dX7_readsAll_1 (by decide) ?_
  refine pF S hK had hP hS i7 tyX7_ok nmX7 e_M rfl 21 (by decide) k112 rfl rfl rfl (Nat.lt_of_lt_of_eq (by decide) len_M.symm) s_M_readSorts dX7_readsAll_2 (fun M_1 H locs eM_1 hP hS => ?_)
  have hF := hF M_1 eM_1
  refine lv_aload_n hx hb dX7_readsAll_5 rfl (lv_at hl 0 rfl) ?_
  refine lv_bipush (v := 109) hx hb dX7_readsAll_6 (by decide) ?_
  refine goZ (rV (rest := []) S hK hP (ctX7_readsLetter l D cI cJ ad had (109 : Int32) _ _ hF) (cwV 1 hts gX7_readsAll_X7_readsLetter rfl rfl rfl hdV_X7_readsLetter ⟨Nat.le_of_ble_eq_true rfl, Nat.le_of_ble_eq_true rfl⟩) e_M rfl rfl hl.1 rfl (Nat.le_of_ble_eq_true rfl) dX7_readsAll_8 ⟨Nat.zero_le _, Nat.zero_le _⟩) hS (fun _ h => h) (fun r_2 M_2 H locs hP hS hz_r_2 hF => ?_)
  refine lv_if_ne (tgt := 16) hx hb dX7_readsAll_11 (by decide) (fun c_3 => ?_) (fun c_3 => ?_)
  · have hF := hF.2 c_3
    refine lv_aload_n hx hb dX7_readsAll_16 rfl (lv_at hl 0 rfl) ?_
    refine lv_aload_n hx hb dX7_readsAll_17 rfl (lv_at hl 0 rfl) ?_
    refine lv_iconst (v := 1) hx hb dX7_readsAll_18 (by decide) ?_
    refine lv_bipush (v := 11) hx hb dX7_readsAll_19 (by decide) ?_
    refine goI (rV (rest := [.ref (ad 32)]) S hK hP (ctX7_readsNumber l D cI cJ ad had (1 : Int32) (11 : Int32) _ _ hF) (cwV 2 hts gX7_readsAll_X7_readsNumber rfl rfl rfl hdV_X7_readsNumber ⟨Nat.le_of_ble_eq_true rfl, Nat.le_of_ble_eq_true rfl⟩) e_M rfl rfl hl.1 rfl (Nat.le_of_ble_eq_true rfl) dX7_readsAll_21 ⟨Nat.zero_le _, Nat.zero_le _⟩) hS (fun _ h => h) (fun r_4 M_4 H locs hP hS hF => ?_)
    refine pF S hK had hP hS i7 tyX7_ok nmX7 e_M rfl 19 (by decide) k119 rfl rfl rfl (Nat.lt_of_lt_of_eq (by decide) len_M.symm) s_M_readServed dX7_readsAll_24 (fun M_5 H locs eM_5 hP hS => ?_)
    have hF := hF M_5 eM_5
    refine lv_aload_n hx hb dX7_readsAll_27 rfl (lv_at hl 0 rfl) ?_
    refine gF S hK hP i7 e_M rfl 19 (by decide) k119 f_M_readServed dX7_readsAll_28 ?_
    refine lv_bipush (v := -9) hx hb dX7_readsAll_31 (by decide) ?_
    refine lv_icmp_eq (tgt := 54) hx hb dX7_readsAll_33 (by decide) (fun c_6 => ?_) (fun c_6 => ?_)
    · have hF := hF.1 c_6
      refine lv_iconst (v := 0) hx hb dX7_readsAll_54 (by decide) ?_
      exact retZ S hr hlocks hP hS rfl hF dX7_readsAll_55
    · have hF := hF.2 c_6
      refine lv_aload_n hx hb dX7_readsAll_36 rfl (lv_at hl 0 rfl) ?_
      refine lv_bipush (v := 59) hx hb dX7_readsAll_37 (by decide) ?_
      refine goZ (rV (rest := []) S hK hP (ctX7_readsLetter l D cI cJ ad had (59 : Int32) _ _ hF) (cwV 1 hts gX7_readsAll_X7_readsLetter rfl rfl rfl hdV_X7_readsLetter ⟨Nat.le_of_ble_eq_true rfl, Nat.le_of_ble_eq_true rfl⟩) e_M rfl rfl hl.1 rfl (Nat.le_of_ble_eq_true rfl) dX7_readsAll_39 ⟨Nat.zero_le _, Nat.zero_le _⟩) hS (fun _ h => h) (fun r_7 M_7 H locs hP hS hz_r_7 hF => ?_)
      refine lv_if_eq (tgt := 54) hx hb dX7_readsAll_42 (by decide) (fun c_8 => ?_) (fun c_8 => ?_)
      · have hF := hF.1 c_8
        refine lv_iconst (v := 0) hx hb dX7_readsAll_54 (by decide) ?_
        exact retZ S hr hlocks hP hS rfl hF dX7_readsAll_55
      · have hF := hF.2 c_8
        refine lv_aload_n hx hb dX7_readsAll_45 rfl (lv_at hl 0 rfl) ?_
        refine lv_bipush (v := 99) hx hb dX7_readsAll_46 (by decide) ?_
        refine goZ (rV (rest := []) S hK hP (ctX7_readsLetter l D cI cJ ad had (99 : Int32) _ _ hF) (cwV 1 hts gX7_readsAll_X7_readsLetter rfl rfl rfl hdV_X7_readsLetter ⟨Nat.le_of_ble_eq_true rfl, Nat.le_of_ble_eq_true rfl⟩) e_M rfl rfl hl.1 rfl (Nat.le_of_ble_eq_true rfl) dX7_readsAll_48 ⟨Nat.zero_le _, Nat.zero_le _⟩) hS (fun _ h => h) (fun r_9 M_9 H locs hP hS hz_r_9 hF => ?_)
        refine lv_if_ne (tgt := 56) hx hb dX7_readsAll_51 (by decide) (fun c_10 => ?_) (fun c_10 => ?_)
        · have hF := hF.2 c_10
          refine lv_aload_n hx hb dX7_readsAll_56 rfl (lv_at hl 0 rfl) ?_
          refine lv_aload_n hx hb dX7_readsAll_57 rfl (lv_at hl 0 rfl) ?_
          refine lv_iconst (v := 1) hx hb dX7_readsAll_58 (by decide) ?_
          refine lv_bipush (v := 9) hx hb dX7_readsAll_59 (by decide) ?_
          refine goI (rV (rest := [.ref (ad 32)]) S hK hP (ctX7_readsNumber l D cI cJ ad had (1 : Int32) (9 : Int32) _ _ hF) (cwV 2 hts gX7_readsAll_X7_readsNumber rfl rfl rfl hdV_X7_readsNumber ⟨Nat.le_of_ble_eq_true rfl, Nat.le_of_ble_eq_true rfl⟩) e_M rfl rfl hl.1 rfl (Nat.le_of_ble_eq_true rfl) dX7_readsAll_61 ⟨Nat.zero_le _, Nat.zero_le _⟩) hS (fun _ h => h) (fun r_11 M_11 H locs hP hS hF => ?_)
          refine pF S hK had hP hS i7 tyX7_ok nmX7 e_M rfl 20 (by decide) k122 rfl rfl rfl (Nat.lt_of_lt_of_eq (by decide) len_M.symm) s_M_readCost dX7_readsAll_64 (fun M_12 H locs eM_12 hP hS => ?_)
          have hF := hF M_12 eM_12
          refine lv_aload_n hx hb dX7_readsAll_67 rfl (lv_at hl 0 rfl) ?_
          refine gF S hK hP i7 e_M rfl 20 (by decide) k122 f_M_readCost dX7_readsAll_68 ?_
          refine lv_bipush (v := -9) hx hb dX7_readsAll_71 (by decide) ?_
          refine lv_icmp_ne (tgt := 78) hx hb dX7_readsAll_73 (by decide) (fun c_13 => ?_) (fun c_13 => ?_)
          · have hF := hF.2 c_13
            have key_78 : ∀ (m78 : Mm), (lX7_readsAll_78 Q m78) → Wc p l e ({ frames := 3, cells := 0, slots := 0, locals := 69 } : Room) s m args below meth c D cI cJ ad (MQ below (QzW D cI cJ ad Q) args s 0 0 (Fr ad)) 1 78 [(0, .ref (ad 32))] m78 := by
              intro  m78 hL
              refine hL (fun  m78 => Wc p l e ({ frames := 3, cells := 0, slots := 0, locals := 69 } : Room) s m args below meth c D cI cJ ad (MQ below (QzW D cI cJ ad Q) args s 0 0 (Fr ad)) 1 78 [(0, .ref (ad 32))] m78) ?_
              intro J_78 hJ_78  m78 hF H locs ls hP hS hl
              unfold bX7_readsAll_78 at hF
              refine lv_aload_n hx hb dX7_readsAll_78 rfl (lv_at hl 0 rfl) ?_
              refine gF S hK hP i7 e_M rfl 17 (by decide) k98 f_M_at dX7_readsAll_79 ?_
              refine lv_aload_n hx hb dX7_readsAll_82 rfl (lv_at hl 0 rfl) ?_
              refine gF S hK hP i7 e_M rfl 18 (by decide) k101 f_M_end dX7_readsAll_83 ?_
              refine lv_icmp_ge (tgt := 127) hx hb dX7_readsAll_86 (by decide) (fun c_14 => ?_) (fun c_14 => ?_)
              · have hF := hF.1 c_14
                refine lv_iconst (v := 1) hx hb dX7_readsAll_127 (by decide) ?_
                exact retZ S hr hlocks hP hS rfl hF dX7_readsAll_128
              · have hF := hF.2 c_14
                refine lv_aload_n hx hb dX7_readsAll_89 rfl (lv_at hl 0 rfl) ?_
                refine goI (rV (rest := []) S hK hP (ctX7_codeAt l D cI cJ ad had  _ _ hF) (cwV 0 hts gX7_readsAll_X7_codeAt rfl rfl rfl hdV_X7_codeAt ⟨Nat.le_of_ble_eq_true rfl, Nat.le_of_ble_eq_true rfl⟩) e_M rfl rfl hl.1 rfl (Nat.le_of_ble_eq_true rfl) dX7_readsAll_90 ⟨Nat.zero_le _, Nat.zero_le _⟩) hS (fun _ h => h) (fun r_15 M_15 H locs hP hS hF => ?_)
                refine lv_bipush (v := 59) hx hb dX7_readsAll_93 (by decide) ?_
                refine lv_icmp_ne (tgt := 106) hx hb dX7_readsAll_95 (by decide) (fun c_16 => ?_) (fun c_16 => ?_)
                · have hF := hF.2 c_16
                  refine lv_iconst (v := 0) hx hb dX7_readsAll_106 (by decide) ?_
                  exact retZ S hr hlocks hP hS rfl hF dX7_readsAll_107
                · have hF := hF.1 c_16
                  refine lv_aload_n hx hb dX7_readsAll_98 rfl (lv_at hl 0 rfl) ?_
                  refine gF S hK hP i7 e_M rfl 21 (by decide) k112 f_M_readSorts dX7_readsAll_99 ?_
                  refine lv_iconst (v := 3) hx hb dX7_readsAll_102 (by decide) ?_
                  refine lv_icmp_ne (tgt := 108) hx hb dX7_readsAll_103 (by decide) (fun c_17 => ?_) (fun c_17 => ?_)
                  · have hF := hF.2 c_17
                    refine lv_aload_n hx hb dX7_readsAll_108 rfl (lv_at hl 0 rfl) ?_
                    refine lv_dup hx hb dX7_readsAll_109 rfl ?_
                    refine gF S hK hP i7 e_M rfl 17 (by decide) k98 f_M_at dX7_readsAll_110 ?_
                    refine lv_iconst (v := 1) hx hb dX7_readsAll_113 (by decide) ?_
                    refine lv_iadd hx hb dX7_readsAll_114 ?_
                    refine pF S hK had hP hS i7 tyX7_ok nmX7 e_M rfl 17 (by decide) k98 rfl rfl rfl (Nat.lt_of_lt_of_eq (by decide) len_M.symm) s_M_at dX7_readsAll_115 (fun M_18 H locs eM_18 hP hS => ?_)
                    have hF := hF M_18 eM_18
                    refine lv_aload_n hx hb dX7_readsAll_118 rfl (lv_at hl 0 rfl) ?_
                    refine goZ (rV (rest := []) S hK hP (ctX7_readsSort l D cI cJ ad had  _ _ hF) (cwV 0 hts gX7_readsAll_X7_readsSort rfl rfl rfl hdV_X7_readsSort ⟨Nat.le_of_ble_eq_true rfl, Nat.le_of_ble_eq_true rfl⟩) e_M rfl rfl hl.1 rfl (Nat.le_of_ble_eq_true rfl) dX7_readsAll_119 ⟨Nat.zero_le _, Nat.zero_le _⟩) hS (fun _ h => h) (fun r_19 M_19 H locs hP hS hz_r_19 hF => ?_)
                    refine lv_if_ne (tgt := 78) hx hb dX7_readsAll_122 (by decide) (fun c_20 => ?_) (fun c_20 => ?_)
                    · have hF := hF.2 c_20
                      exact hJ_78 _ hF _ _ _ hP hS (lv_sub hl [0] rfl)
                    · have hF := hF.1 c_20
                      refine lv_iconst (v := 0) hx hb dX7_readsAll_125 (by decide) ?_
                      exact retZ S hr hlocks hP hS rfl hF dX7_readsAll_126
                  · have hF := hF.1 c_17
                    refine lv_iconst (v := 0) hx hb dX7_readsAll_106 (by decide) ?_
                    exact retZ S hr hlocks hP hS rfl hF dX7_readsAll_107
            exact key_78 _ hF _ _ _ hP hS (lv_sub hl [0] rfl)
          · have hF := hF.1 c_13
            refine lv_iconst (v := 0) hx hb dX7_readsAll_76 (by decide) ?_
            exact retZ S hr hlocks hP hS rfl hF dX7_readsAll_77
        · have hF := hF.1 c_10
          refine lv_iconst (v := 0) hx hb dX7_readsAll_54 (by decide) ?_
          exact retZ S hr hlocks hP hS rfl hF dX7_readsAll_55
  · have hF := hF.1 c_3
    refine lv_iconst (v := 0) hx hb dX7_readsAll_14 (by decide) ?_
    exact retZ S hr hlocks hP hS rfl hF dX7_readsAll_15
def bX7_place_185 (Q : Int32 → Mm → Prop) (J_185 : Int32 → Mm → Prop) (x6_185 : Int32) (m185 : Mm) : Prop := (((gi m185 31) ≤ x6_185 → (∀ M_27 : Mm, M_27 = (si m185 32 (0 : Int32)) → (∀ M_28 : Mm, M_28 = (si M_27 33 (0 : Int32)) → (∀ M_29 : Mm, M_29 = (si M_28 34 (0 : Int32)) → (∀ M_30 : Mm, M_30 = (si M_29 40 (0 : Int32)) → (∀ M_31 : Mm, M_31 = (si M_30 41 (0 : Int32)) → (Q (gi M_31 31) M_31))))))) ∧ (¬ (gi m185 31) ≤ x6_185 → (vp_in x6_185 3 ∧ (vp_in x6_185 3 ∧ (∀ M_33 : Mm, M_33 = (sa m185 36 (upd (ga m185 36) x6_185.toNatClampNeg (ga m185 39 x6_185.toNatClampNeg))) → (vp_in x6_185 3 ∧ (vp_in x6_185 3 ∧ (∀ M_36 : Mm, M_36 = (sa M_33 37 (upd (ga M_33 37) x6_185.toNatClampNeg (ga M_33 40 x6_185.toNatClampNeg))) → (vp_in x6_185 3 ∧ (∀ M_38 : Mm, M_38 = (sa M_36 38 (upd (ga M_36 38) x6_185.toNatClampNeg (0 : Int32))) → (J_185 (x6_185 + 1) M_38)))))))))))
def lX7_place_185 (Q : Int32 → Mm → Prop) (x6_185 : Int32) (m185 : Mm) : Prop := ∀ I : Int32 → Mm → Prop, (∀ J : Int32 → Mm → Prop, (∀ (x6_185 : Int32) (m : Mm), J x6_185 m → I x6_185 m) → ∀ (x6_185 : Int32) (m : Mm), bX7_place_185 Q J x6_185 m → I x6_185 m) → I x6_185 m185
theorem lX7_place_185_mk (Q : Int32 → Mm → Prop) (x6_185 : Int32) (m185 : Mm) (h : bX7_place_185 Q (lX7_place_185 Q) x6_185 m185) : lX7_place_185 Q x6_185 m185 := fun I hI => hI (lX7_place_185 Q) (fun _ _ q => q I hI) _ _ h
def wX7_place (a1 : Int32) (a2 : Int32) (a3 : Int32) (a4 : Int32) (Q : Int32 → Mm → Prop) (M : Mm) : Prop := (∀ M_1 : Mm, M_1 = (si M 26 (0 : Int32)) → (wX7_isSheet a1 (fun r_2 M_2 => ((r_2 = 0 → (Q (-1 : Int32) M_2)) ∧ (¬ r_2 = 0 → (wX7_isLane a2 (fun r_4 M_4 => ((r_4 = 0 → (Q (-2 : Int32) M_4)) ∧ (¬ r_4 = 0 → (vp_in a1 4 ∧ (((ga M_4 33 a1.toNatClampNeg) = (-9 : Int32) → (vp_in a1 4 ∧ (((ga M_4 33 a1.toNatClampNeg) = (-9 : Int32) → (wX7_fails (1 : Int32) (fun r_42 M_42 => (Q r_42 M_42)) M_4)) ∧ (¬ (ga M_4 33 a1.toNatClampNeg) = (-9 : Int32) → ((0 ≤ a4 → ((a3 < 0 → (wX7_fails (3 : Int32) (fun r_12 M_12 => (Q r_12 M_12)) M_4)) ∧ (¬ a3 < 0 → (vp_in a1 4 ∧ (((ga M_4 34 a1.toNatClampNeg) < a3 → (wX7_fails (3 : Int32) (fun r_15 M_15 => (Q r_15 M_15)) M_4)) ∧ (¬ (ga M_4 34 a1.toNatClampNeg) < a3 → (vp_in a1 4 ∧ ((a4 ≤ ((ga M_4 34 a1.toNatClampNeg) - a3) → (∀ M_18 : Mm, M_18 = (si M_4 35 (((60 : Int32) * a1) + a3)) → (∀ M_19 : Mm, M_19 = (si M_18 36 ((((60 : Int32) * a1) + a3) + a4)) → (wX7_readsAll (fun r_20 M_20 => ((r_20 = 0 → (Q ((-100 : Int32) - ((gi M_20 35) - (((60 : Int32) * a1) + a3))) M_20)) ∧ (¬ r_20 = 0 → (∀ M_22 : Mm, M_22 = (si M_20 28 (1 : Int32)) → (∀ M_23 : Mm, M_23 = (si M_22 29 (gi M_22 37)) → (∀ M_24 : Mm, M_24 = (si M_23 30 (gi M_23 38)) → (∀ M_25 : Mm, M_25 = (si M_24 31 (gi M_24 39)) → (lX7_place_185 Q (0 : Int32) M_25)))))))) M_19)))) ∧ (¬ a4 ≤ ((ga M_4 34 a1.toNatClampNeg) - a3) → (wX7_fails (3 : Int32) (fun r_40 M_40 => (Q r_40 M_40)) M_4)))))))))) ∧ (¬ 0 ≤ a4 → (wX7_fails (4 : Int32) (fun r_41 M_41 => (Q r_41 M_41)) M_4))))))) ∧ (¬ (ga M_4 33 a1.toNatClampNeg) = (-9 : Int32) → (vp_in a1 4 ∧ (((ga M_4 33 a1.toNatClampNeg) = a2 → (vp_in a1 4 ∧ (((ga M_4 33 a1.toNatClampNeg) = (-9 : Int32) → (wX7_fails (1 : Int32) (fun r_79 M_79 => (Q r_79 M_79)) M_4)) ∧ (¬ (ga M_4 33 a1.toNatClampNeg) = (-9 : Int32) → ((0 ≤ a4 → ((a3 < 0 → (wX7_fails (3 : Int32) (fun r_49 M_49 => (Q r_49 M_49)) M_4)) ∧ (¬ a3 < 0 → (vp_in a1 4 ∧ (((ga M_4 34 a1.toNatClampNeg) < a3 → (wX7_fails (3 : Int32) (fun r_52 M_52 => (Q r_52 M_52)) M_4)) ∧ (¬ (ga M_4 34 a1.toNatClampNeg) < a3 → (vp_in a1 4 ∧ ((a4 ≤ ((ga M_4 34 a1.toNatClampNeg) - a3) → (∀ M_55 : Mm, M_55 = (si M_4 35 (((60 : Int32) * a1) + a3)) → (∀ M_56 : Mm, M_56 = (si M_55 36 ((((60 : Int32) * a1) + a3) + a4)) → (wX7_readsAll (fun r_57 M_57 => ((r_57 = 0 → (Q ((-100 : Int32) - ((gi M_57 35) - (((60 : Int32) * a1) + a3))) M_57)) ∧ (¬ r_57 = 0 → (∀ M_59 : Mm, M_59 = (si M_57 28 (1 : Int32)) → (∀ M_60 : Mm, M_60 = (si M_59 29 (gi M_59 37)) → (∀ M_61 : Mm, M_61 = (si M_60 30 (gi M_60 38)) → (∀ M_62 : Mm, M_62 = (si M_61 31 (gi M_61 39)) → (lX7_place_185 Q (0 : Int32) M_62)))))))) M_56)))) ∧ (¬ a4 ≤ ((ga M_4 34 a1.toNatClampNeg) - a3) → (wX7_fails (3 : Int32) (fun r_77 M_77 => (Q r_77 M_77)) M_4)))))))))) ∧ (¬ 0 ≤ a4 → (wX7_fails (4 : Int32) (fun r_78 M_78 => (Q r_78 M_78)) M_4))))))) ∧ (¬ (ga M_4 33 a1.toNatClampNeg) = a2 → (wX7_fails (2 : Int32) (fun r_80 M_80 => (Q r_80 M_80)) M_4)))))))))) M_2)))) M_1))
set_option maxHeartbeats 4000000 in
set_option maxRecDepth 100000 in
theorem ctX7_place (l : Launch) (D : va_G) (cI cJ : ClassId) (ad : Nat → Nat) (had : inj54 ad) (a1 : Int32) (a2 : Int32) (a3 : Int32) (a4 : Int32) (Q : Int32 → Mm → Prop) (M : Mm) (hF : wX7_place a1 a2 a3 a4 Q M) : Met l yX7_place wsX7_place ({ frames := 4, cells := 0, slots := 0, locals := 89 } : Room) (PcW D cI cJ ad M [.ref (ad 32), .int a1, .int a2, .int a3, .int a4]) (QiW D cI cJ ad Q) 0 0 (Fr ad) := by
  refine entW (y := yX7_place) (ret := some .int) (maxL := 7) (plainFor_of_name (by decide)) rfl (Nat.le_of_ble_eq_true rfl) ?_
  intro p e s m args below meth c ls S hK hr hlocks hP hS hl
  have hx := S.1
  have hb := S.2.1
  have hown := S.2.2.2.1
  have hts := S.2.2.2.2
  have i7 : ∀ w ∈ wsX70, w ∈ wsX7_place := by decide +kernel
  have k74 := hts (.fieldLink RX7 74 "RopeLineModel" "fault" "I") (by decide +kernel)
  have k9 := hts (.fieldLink RX7 9 "RopeLineModel" "lanes" "[I") (by decide +kernel)
  have k13 := hts (.fieldLink RX7 13 "RopeLineModel" "sheetLong" "[I") (by decide +kernel)
  have k98 := hts (.fieldLink RX7 98 "RopeLineModel" "at" "I") (by decide +kernel)
  have k101 := hts (.fieldLink RX7 101 "RopeLineModel" "end" "I") (by decide +kernel)
  have k142 := hts (.fieldLink RX7 142 "RopeLineModel" "isPlace" "Z") (by decide +kernel)
  have k119 := hts (.fieldLink RX7 119 "RopeLineModel" "readServed" "I") (by decide +kernel)
  have k146 := hts (.fieldLink RX7 146 "RopeLineModel" "served" "I") (by decide +kernel)
  have k122 := hts (.fieldLink RX7 122 "RopeLineModel" "readCost" "I") (by decide +kernel)
  have k149 := hts (.fieldLink RX7 149 "RopeLineModel" "cost" "I") (by decide +kernel)
  have k112 := hts (.fieldLink RX7 112 "RopeLineModel" "readSorts" "I") (by decide +kernel)
  have k152 := hts (.fieldLink RX7 152 "RopeLineModel" "sorts" "I") (by decide +kernel)
  have k155 := hts (.fieldLink RX7 155 "RopeLineModel" "toll" "I") (by decide +kernel)
  have k158 := hts (.fieldLink RX7 158 "RopeLineModel" "step" "I") (by decide +kernel)
  have k161 := hts (.fieldLink RX7 161 "RopeLineModel" "lie" "I") (by decide +kernel)
  have k164 := hts (.fieldLink RX7 164 "RopeLineModel" "comers" "I") (by decide +kernel)
  have k167 := hts (.fieldLink RX7 167 "RopeLineModel" "minutes" "I") (by decide +kernel)
  have k19 := hts (.fieldLink RX7 19 "RopeLineModel" "twelfths" "[I") (by decide +kernel)
  have k28 := hts (.fieldLink RX7 28 "RopeLineModel" "readTwelfths" "[I") (by decide +kernel)
  have k22 := hts (.fieldLink RX7 22 "RopeLineModel" "worths" "[I") (by decide +kernel)
  have k31 := hts (.fieldLink RX7 31 "RopeLineModel" "readWorths" "[I") (by decide +kernel)
  have k25 := hts (.fieldLink RX7 25 "RopeLineModel" "bars" "[I") (by decide +kernel)
  have hl : lv_has ls 7 [(0, .ref (ad 32)), (1, .int a1), (2, .int a2), (3, .int a3), (4, .int a4)] := hl
  unfold wX7_place at hF
  refine lv_aload_n hx hb dX7_place_0 rfl (lv_at hl 0 rfl) ?_
  refine lv_iconst (v := 0) hx hb dX7_place_1 (by decide) ?_
  refine pF S hK had hP hS i7 tyX7_ok nmX7 e_M rfl 0 (by decide) k74 rfl rfl rfl (Nat.lt_of_lt_of_eq (by decide) len_M.symm) s_M_fault dX7_place_2 (fun M_1 H locs eM_1 hP hS => ?_)
  have hF := hF M_1 eM_1
  refine lv_iload_n hx hb dX7_place_5 rfl (lv_at hl 1 rfl) ?_
  refine goZ (rS (rest := []) S hK hP (ctX7_isSheet l D cI cJ ad had a1 _ _ hF) (va_cwS 1 hts gX7_place_X7_isSheet rfl rfl rfl hdS_X7_isSheet ⟨Nat.le_of_ble_eq_true rfl, Nat.le_of_ble_eq_true rfl⟩) rfl hl.1 rfl (Nat.le_of_ble_eq_true rfl) dX7_place_6 ⟨Nat.zero_le _, Nat.zero_le _⟩) hS (fun _ h => h) (fun r_2 M_2 H locs hP hS hz_r_2 hF => ?_)
  refine lv_if_ne (tgt := 14) hx hb dX7_place_9 (by decide) (fun c_3 => ?_) (fun c_3 => ?_)
  · have hF := hF.2 c_3
    refine lv_iload_n hx hb dX7_place_14 rfl (lv_at hl 2 rfl) ?_
    refine goZ (rS (rest := []) S hK hP (ctX7_isLane l D cI cJ ad had a2 _ _ hF) (va_cwS 1 hts gX7_place_X7_isLane rfl rfl rfl hdS_X7_isLane ⟨Nat.le_of_ble_eq_true rfl, Nat.le_of_ble_eq_true rfl⟩) rfl hl.1 rfl (Nat.le_of_ble_eq_true rfl) dX7_place_15 ⟨Nat.zero_le _, Nat.zero_le _⟩) hS (fun _ h => h) (fun r_4 M_4 H locs hP hS hz_r_4 hF => ?_)
    refine lv_if_ne (tgt := 24) hx hb dX7_place_18 (by decide) (fun c_5 => ?_) (fun c_5 => ?_)
    · have hF := hF.2 c_5
      refine lv_aload_n hx hb dX7_place_24 rfl (lv_at hl 0 rfl) ?_
      refine gF S hK hP i7 e_M rfl 4 (by decide) k9 f_M_lanes dX7_place_25 ?_
      refine lv_iload_n hx hb dX7_place_28 rfl (lv_at hl 1 rfl) ?_
      obtain ⟨hb_6, hF⟩ := hF
      refine ldA S hK hP (k := 33) rfl hb_6 dX7_place_29 ?_
      refine lv_bipush (v := -9) hx hb dX7_place_30 (by decide) ?_
      refine lv_icmp_eq (tgt := 51) hx hb dX7_place_32 (by decide) (fun c_7 => ?_) (fun c_7 => ?_)
      · have hF := hF.1 c_7
        refine lv_aload_n hx hb dX7_place_51 rfl (lv_at hl 0 rfl) ?_
        refine gF S hK hP i7 e_M rfl 4 (by decide) k9 f_M_lanes dX7_place_52 ?_
        refine lv_iload_n hx hb dX7_place_55 rfl (lv_at hl 1 rfl) ?_
        obtain ⟨hb_8, hF⟩ := hF
        refine ldA S hK hP (k := 33) rfl hb_8 dX7_place_56 ?_
        refine lv_bipush (v := -9) hx hb dX7_place_57 (by decide) ?_
        refine lv_icmp_ne (tgt := 68) hx hb dX7_place_59 (by decide) (fun c_9 => ?_) (fun c_9 => ?_)
        · have hF := hF.2 c_9
          refine lv_iload hx hb dX7_place_68 (lv_at hl 4 rfl) ?_
          refine lv_if_ge (tgt := 79) hx hb dX7_place_70 (by decide) (fun c_10 => ?_) (fun c_10 => ?_)
          · have hF := hF.1 c_10
            refine lv_iload_n hx hb dX7_place_79 rfl (lv_at hl 3 rfl) ?_
            refine lv_if_lt (tgt := 106) hx hb dX7_place_80 (by decide) (fun c_11 => ?_) (fun c_11 => ?_)
            · have hF := hF.1 c_11
              refine lv_aload_n hx hb dX7_place_106 rfl (lv_at hl 0 rfl) ?_
              refine lv_iconst (v := 3) hx hb dX7_place_107 (by decide) ?_
              refine goI (rV (rest := []) S hK hP (ctX7_fails l D cI cJ ad had (3 : Int32) _ _ hF) (cwV 1 hts gX7_place_X7_fails rfl rfl rfl hdV_X7_fails ⟨Nat.le_of_ble_eq_true rfl, Nat.le_of_ble_eq_true rfl⟩) e_M rfl rfl hl.1 rfl (Nat.le_of_ble_eq_true rfl) dX7_place_108 ⟨Nat.zero_le _, Nat.zero_le _⟩) hS (fun _ h => h) (fun r_12 M_12 H locs hP hS hF => ?_)
              exact retI S hr hlocks hP hS hF dX7_place_111
            · have hF := hF.2 c_11
              refine lv_iload_n hx hb dX7_place_83 rfl (lv_at hl 3 rfl) ?_
              refine lv_aload_n hx hb dX7_place_84 rfl (lv_at hl 0 rfl) ?_
              refine gF S hK hP i7 e_M rfl 5 (by decide) k13 f_M_sheetLong dX7_place_85 ?_
              refine lv_iload_n hx hb dX7_place_88 rfl (lv_at hl 1 rfl) ?_
              obtain ⟨hb_13, hF⟩ := hF
              refine ldA S hK hP (k := 34) rfl hb_13 dX7_place_89 ?_
              refine lv_icmp_gt (tgt := 106) hx hb dX7_place_90 (by decide) (fun c_14 => ?_) (fun c_14 => ?_)
              · have hF := hF.1 c_14
                refine lv_aload_n hx hb dX7_place_106 rfl (lv_at hl 0 rfl) ?_
                refine lv_iconst (v := 3) hx hb dX7_place_107 (by decide) ?_
                refine goI (rV (rest := []) S hK hP (ctX7_fails l D cI cJ ad had (3 : Int32) _ _ hF) (cwV 1 hts gX7_place_X7_fails rfl rfl rfl hdV_X7_fails ⟨Nat.le_of_ble_eq_true rfl, Nat.le_of_ble_eq_true rfl⟩) e_M rfl rfl hl.1 rfl (Nat.le_of_ble_eq_true rfl) dX7_place_108 ⟨Nat.zero_le _, Nat.zero_le _⟩) hS (fun _ h => h) (fun r_15 M_15 H locs hP hS hF => ?_)
                exact retI S hr hlocks hP hS hF dX7_place_111
              · have hF := hF.2 c_14
                refine lv_iload hx hb dX7_place_93 (lv_at hl 4 rfl) ?_
                refine lv_aload_n hx hb dX7_place_95 rfl (lv_at hl 0 rfl) ?_
                refine gF S hK hP i7 e_M rfl 5 (by decide) k13 f_M_sheetLong dX7_place_96 ?_
                refine lv_iload_n hx hb dX7_place_99 rfl (lv_at hl 1 rfl) ?_
                obtain ⟨hb_16, hF⟩ := hF
                refine ldA S hK hP (k := 34) rfl hb_16 dX7_place_100 ?_
                refine lv_iload_n hx hb dX7_place_101 rfl (lv_at hl 3 rfl) ?_
                refine lv_isub hx hb dX7_place_102 ?_
                refine lv_icmp_le (tgt := 112) hx hb dX7_place_103 (by decide) (fun c_17 => ?_) (fun c_17 => ?_)
                · have hF := hF.1 c_17
                  refine lv_bipush (v := 60) hx hb dX7_place_112 (by decide) ?_
                  refine lv_iload_n hx hb dX7_place_114 rfl (lv_at hl 1 rfl) ?_
                  refine lv_imul hx hb dX7_place_115 ?_
                  refine lv_iload_n hx hb dX7_place_116 rfl (lv_at hl 3 rfl) ?_
                  refine lv_iadd hx hb dX7_place_117 ?_
                  refine lv_istore (lv' := [(5, .int (((60 : Int32) * a1) + a3)), (0, .ref (ad 32)), (1, .int a1), (2, .int a2), (3, .int a3), (4, .int a4)]) hx hb dX7_place_118 hl (by decide) rfl (fun ls hl => ?_)
                  refine lv_aload_n hx hb dX7_place_120 rfl (lv_at hl 1 rfl) ?_
                  refine lv_iload hx hb dX7_place_121 (lv_at hl 0 rfl) ?_
                  refine pF S hK had hP hS i7 tyX7_ok nmX7 e_M rfl 17 (by decide) k98 rfl rfl rfl (Nat.lt_of_lt_of_eq (by decide) len_M.symm) s_M_at dX7_place_123 (fun M_18 H locs eM_18 hP hS => ?_)
                  have hF := hF M_18 eM_18
                  refine lv_aload_n hx hb dX7_place_126 rfl (lv_at hl 1 rfl) ?_
                  refine lv_iload hx hb dX7_place_127 (lv_at hl 0 rfl) ?_
                  refine lv_iload hx hb dX7_place_129 (lv_at hl 5 rfl) ?_
                  refine lv_iadd hx hb dX7_place_131 ?_
                  refine pF S hK had hP hS i7 tyX7_ok nmX7 e_M rfl 18 (by decide) k101 rfl rfl rfl (Nat.lt_of_lt_of_eq (by decide) len_M.symm) s_M_end dX7_place_132 (fun M_19 H locs eM_19 hP hS => ?_)
                  have hF := hF M_19 eM_19
                  refine lv_aload_n hx hb dX7_place_135 rfl (lv_at hl 1 rfl) ?_
                  refine goZ (rV (rest := []) S hK hP (ctX7_readsAll l D cI cJ ad had  _ _ hF) (cwV 0 hts gX7_place_X7_readsAll rfl rfl rfl hdV_X7_readsAll ⟨Nat.le_of_ble_eq_true rfl, Nat.le_of_ble_eq_true rfl⟩) e_M rfl rfl hl.1 rfl (Nat.le_of_ble_eq_true rfl) dX7_place_136 ⟨Nat.zero_le _, Nat.zero_le _⟩) hS (fun _ h => h) (fun r_20 M_20 H locs hP hS hz_r_20 hF => ?_)
                  refine lv_if_ne (tgt := 153) hx hb dX7_place_139 (by decide) (fun c_21 => ?_) (fun c_21 => ?_)
                  · have hF := hF.2 c_21
                    refine lv_aload_n hx hb dX7_place_153 rfl (lv_at hl 1 rfl) ?_
                    refine lv_iconst (v := 1) hx hb dX7_place_154 (by decide) ?_
                    refine pF S hK had hP hS i7 tyX7_ok nmX7 e_M rfl 7 (by decide) k142 rfl rfl rfl (Nat.lt_of_lt_of_eq (by decide) len_M.symm) s_M_isPlace dX7_place_155 (fun M_22 H locs eM_22 hP hS => ?_)
                    have hF := hF M_22 eM_22
                    refine lv_aload_n hx hb dX7_place_158 rfl (lv_at hl 1 rfl) ?_
                    refine lv_aload_n hx hb dX7_place_159 rfl (lv_at hl 1 rfl) ?_
                    refine gF S hK hP i7 e_M rfl 19 (by decide) k119 f_M_readServed dX7_place_160 ?_
                    refine pF S hK had hP hS i7 tyX7_ok nmX7 e_M rfl 8 (by decide) k146 rfl rfl rfl (Nat.lt_of_lt_of_eq (by decide) len_M.symm) s_M_served dX7_place_163 (fun M_23 H locs eM_23 hP hS => ?_)
                    have hF := hF M_23 eM_23
                    refine lv_aload_n hx hb dX7_place_166 rfl (lv_at hl 1 rfl) ?_
                    refine lv_aload_n hx hb dX7_place_167 rfl (lv_at hl 1 rfl) ?_
                    refine gF S hK hP i7 e_M rfl 20 (by decide) k122 f_M_readCost dX7_place_168 ?_
                    refine pF S hK had hP hS i7 tyX7_ok nmX7 e_M rfl 9 (by decide) k149 rfl rfl rfl (Nat.lt_of_lt_of_eq (by decide) len_M.symm) s_M_cost dX7_place_171 (fun M_24 H locs eM_24 hP hS => ?_)
                    have hF := hF M_24 eM_24
                    refine lv_aload_n hx hb dX7_place_174 rfl (lv_at hl 1 rfl) ?_
                    refine lv_aload_n hx hb dX7_place_175 rfl (lv_at hl 1 rfl) ?_
                    refine gF S hK hP i7 e_M rfl 21 (by decide) k112 f_M_readSorts dX7_place_176 ?_
                    refine pF S hK had hP hS i7 tyX7_ok nmX7 e_M rfl 10 (by decide) k152 rfl rfl rfl (Nat.lt_of_lt_of_eq (by decide) len_M.symm) s_M_sorts dX7_place_179 (fun M_25 H locs eM_25 hP hS => ?_)
                    have hF := hF M_25 eM_25
                    refine lv_iconst (v := 0) hx hb dX7_place_182 (by decide) ?_
                    refine lv_istore (lv' := [(6, .int (0 : Int32)), (5, .int (((60 : Int32) * a1) + a3)), (0, .ref (ad 32)), (1, .int a1), (2, .int a2), (3, .int a3), (4, .int a4)]) hx hb dX7_place_183 hl (by decide) rfl (fun ls hl => ?_)
                    have key_185 : ∀ (x6_185 : Int32) (m185 : Mm), (lX7_place_185 Q x6_185 m185) → Wc p l e ({ frames := 4, cells := 0, slots := 0, locals := 89 } : Room) s m args below meth c D cI cJ ad (MQ below (QiW D cI cJ ad Q) args s 0 0 (Fr ad)) 7 185 [(0, .ref (ad 32)), (6, .int x6_185)] m185 := by
                      intro x6_185 m185 hL
                      refine hL (fun x6_185 m185 => Wc p l e ({ frames := 4, cells := 0, slots := 0, locals := 89 } : Room) s m args below meth c D cI cJ ad (MQ below (QiW D cI cJ ad Q) args s 0 0 (Fr ad)) 7 185 [(0, .ref (ad 32)), (6, .int x6_185)] m185) ?_
                      intro J_185 hJ_185 x6_185 m185 hF H locs ls hP hS hl
                      unfold bX7_place_185 at hF
                      refine lv_iload hx hb dX7_place_185 (lv_at hl 1 rfl) ?_
                      refine lv_aload_n hx hb dX7_place_187 rfl (lv_at hl 0 rfl) ?_
                      refine gF S hK hP i7 e_M rfl 10 (by decide) k152 f_M_sorts dX7_place_188 ?_
                      refine lv_icmp_ge (tgt := 236) hx hb dX7_place_191 (by decide) (fun c_26 => ?_) (fun c_26 => ?_)
                      · have hF := hF.1 c_26
                        refine lv_aload_n hx hb dX7_place_236 rfl (lv_at hl 0 rfl) ?_
                        refine lv_iconst (v := 0) hx hb dX7_place_237 (by decide) ?_
                        refine pF S hK had hP hS i7 tyX7_ok nmX7 e_M rfl 14 (by decide) k155 rfl rfl rfl (Nat.lt_of_lt_of_eq (by decide) len_M.symm) s_M_toll dX7_place_238 (fun M_27 H locs eM_27 hP hS => ?_)
                        have hF := hF M_27 eM_27
                        refine lv_aload_n hx hb dX7_place_241 rfl (lv_at hl 0 rfl) ?_
                        refine lv_iconst (v := 0) hx hb dX7_place_242 (by decide) ?_
                        refine pF S hK had hP hS i7 tyX7_ok nmX7 e_M rfl 15 (by decide) k158 rfl rfl rfl (Nat.lt_of_lt_of_eq (by decide) len_M.symm) s_M_step dX7_place_243 (fun M_28 H locs eM_28 hP hS => ?_)
                        have hF := hF M_28 eM_28
                        refine lv_aload_n hx hb dX7_place_246 rfl (lv_at hl 0 rfl) ?_
                        refine lv_iconst (v := 0) hx hb dX7_place_247 (by decide) ?_
                        refine pF S hK had hP hS i7 tyX7_ok nmX7 e_M rfl 16 (by decide) k161 rfl rfl rfl (Nat.lt_of_lt_of_eq (by decide) len_M.symm) s_M_lie dX7_place_248 (fun M_29 H locs eM_29 hP hS => ?_)
                        have hF := hF M_29 eM_29
                        refine lv_aload_n hx hb dX7_place_251 rfl (lv_at hl 0 rfl) ?_
                        refine lv_iconst (v := 0) hx hb dX7_place_252 (by decide) ?_
                        refine pF S hK had hP hS i7 tyX7_ok nmX7 e_M rfl 32 (by decide) k164 rfl rfl rfl (Nat.lt_of_lt_of_eq (by decide) len_M.symm) s_M_comers dX7_place_253 (fun M_30 H locs eM_30 hP hS => ?_)
                        have hF := hF M_30 eM_30
                        refine lv_aload_n hx hb dX7_place_256 rfl (lv_at hl 0 rfl) ?_
                        refine lv_iconst (v := 0) hx hb dX7_place_257 (by decide) ?_
                        refine pF S hK had hP hS i7 tyX7_ok nmX7 e_M rfl 33 (by decide) k167 rfl rfl rfl (Nat.lt_of_lt_of_eq (by decide) len_M.symm) s_M_minutes dX7_place_258 (fun M_31 H locs eM_31 hP hS => ?_)
                        have hF := hF M_31 eM_31
                        refine lv_aload_n hx hb dX7_place_261 rfl (lv_at hl 0 rfl) ?_
                        refine gF S hK hP i7 e_M rfl 10 (by decide) k152 f_M_sorts dX7_place_262 ?_
                        exact retI S hr hlocks hP hS hF dX7_place_265
                      · have hF := hF.2 c_26
                        refine lv_aload_n hx hb dX7_place_194 rfl (lv_at hl 0 rfl) ?_
                        refine gF S hK hP i7 e_M rfl 11 (by decide) k19 f_M_twelfths dX7_place_195 ?_
                        refine lv_iload hx hb dX7_place_198 (lv_at hl 1 rfl) ?_
                        refine lv_aload_n hx hb dX7_place_200 rfl (lv_at hl 0 rfl) ?_
                        refine gF S hK hP i7 e_M rfl 22 (by decide) k28 f_M_readTwelfths dX7_place_201 ?_
                        refine lv_iload hx hb dX7_place_204 (lv_at hl 1 rfl) ?_
                        obtain ⟨hb_32, hF⟩ := hF
                        refine ldA S hK hP (k := 39) rfl hb_32 dX7_place_206 ?_
                        obtain ⟨hb_34, hF⟩ := hF
                        refine stA S hK had hP hS (k := 36) rfl hb_34 dX7_place_207 (fun M_33 H locs eM_33 hP hS => ?_)
                        have hF := hF M_33 eM_33
                        refine lv_aload_n hx hb dX7_place_208 rfl (lv_at hl 0 rfl) ?_
                        refine gF S hK hP i7 e_M rfl 12 (by decide) k22 f_M_worths dX7_place_209 ?_
                        refine lv_iload hx hb dX7_place_212 (lv_at hl 1 rfl) ?_
                        refine lv_aload_n hx hb dX7_place_214 rfl (lv_at hl 0 rfl) ?_
                        refine gF S hK hP i7 e_M rfl 23 (by decide) k31 f_M_readWorths dX7_place_215 ?_
                        refine lv_iload hx hb dX7_place_218 (lv_at hl 1 rfl) ?_
                        obtain ⟨hb_35, hF⟩ := hF
                        refine ldA S hK hP (k := 40) rfl hb_35 dX7_place_220 ?_
                        obtain ⟨hb_37, hF⟩ := hF
                        refine stA S hK had hP hS (k := 37) rfl hb_37 dX7_place_221 (fun M_36 H locs eM_36 hP hS => ?_)
                        have hF := hF M_36 eM_36
                        refine lv_aload_n hx hb dX7_place_222 rfl (lv_at hl 0 rfl) ?_
                        refine gF S hK hP i7 e_M rfl 13 (by decide) k25 f_M_bars dX7_place_223 ?_
                        refine lv_iload hx hb dX7_place_226 (lv_at hl 1 rfl) ?_
                        refine lv_iconst (v := 0) hx hb dX7_place_228 (by decide) ?_
                        obtain ⟨hb_39, hF⟩ := hF
                        refine stA S hK had hP hS (k := 38) rfl hb_39 dX7_place_229 (fun M_38 H locs eM_38 hP hS => ?_)
                        have hF := hF M_38 eM_38
                        refine lv_iinc (v := (x6_185 + 1)) (lv' := [(6, .int (x6_185 + 1)), (0, .ref (ad 32))]) hx hb dX7_place_230 hl (k := 1) rfl rfl (by decide) rfl (fun ls hl => ?_)
                        refine lv_goto (tgt := 185) hx hb dX7_place_233 (by decide) ?_
                        exact hJ_185 _ _ hF _ _ _ hP hS (lv_sub hl [1, 0] rfl)
                    exact key_185 _ _ hF _ _ _ hP hS (lv_sub hl [2, 0] rfl)
                  · have hF := hF.1 c_21
                    refine lv_bipush (v := -100) hx hb dX7_place_142 (by decide) ?_
                    refine lv_aload_n hx hb dX7_place_144 rfl (lv_at hl 1 rfl) ?_
                    refine gF S hK hP i7 e_M rfl 17 (by decide) k98 f_M_at dX7_place_145 ?_
                    refine lv_iload hx hb dX7_place_148 (lv_at hl 0 rfl) ?_
                    refine lv_isub hx hb dX7_place_150 ?_
                    refine lv_isub hx hb dX7_place_151 ?_
                    exact retI S hr hlocks hP hS hF dX7_place_152
                · have hF := hF.2 c_17
                  refine lv_aload_n hx hb dX7_place_106 rfl (lv_at hl 0 rfl) ?_
                  refine lv_iconst (v := 3) hx hb dX7_place_107 (by decide) ?_
                  refine goI (rV (rest := []) S hK hP (ctX7_fails l D cI cJ ad had (3 : Int32) _ _ hF) (cwV 1 hts gX7_place_X7_fails rfl rfl rfl hdV_X7_fails ⟨Nat.le_of_ble_eq_true rfl, Nat.le_of_ble_eq_true rfl⟩) e_M rfl rfl hl.1 rfl (Nat.le_of_ble_eq_true rfl) dX7_place_108 ⟨Nat.zero_le _, Nat.zero_le _⟩) hS (fun _ h => h) (fun r_40 M_40 H locs hP hS hF => ?_)
                  exact retI S hr hlocks hP hS hF dX7_place_111
          · have hF := hF.2 c_10
            refine lv_aload_n hx hb dX7_place_73 rfl (lv_at hl 0 rfl) ?_
            refine lv_iconst (v := 4) hx hb dX7_place_74 (by decide) ?_
            refine goI (rV (rest := []) S hK hP (ctX7_fails l D cI cJ ad had (4 : Int32) _ _ hF) (cwV 1 hts gX7_place_X7_fails rfl rfl rfl hdV_X7_fails ⟨Nat.le_of_ble_eq_true rfl, Nat.le_of_ble_eq_true rfl⟩) e_M rfl rfl hl.1 rfl (Nat.le_of_ble_eq_true rfl) dX7_place_75 ⟨Nat.zero_le _, Nat.zero_le _⟩) hS (fun _ h => h) (fun r_41 M_41 H locs hP hS hF => ?_)
            exact retI S hr hlocks hP hS hF dX7_place_78
        · have hF := hF.1 c_9
          refine lv_aload_n hx hb dX7_place_62 rfl (lv_at hl 0 rfl) ?_
          refine lv_iconst (v := 1) hx hb dX7_place_63 (by decide) ?_
          refine goI (rV (rest := []) S hK hP (ctX7_fails l D cI cJ ad had (1 : Int32) _ _ hF) (cwV 1 hts gX7_place_X7_fails rfl rfl rfl hdV_X7_fails ⟨Nat.le_of_ble_eq_true rfl, Nat.le_of_ble_eq_true rfl⟩) e_M rfl rfl hl.1 rfl (Nat.le_of_ble_eq_true rfl) dX7_place_64 ⟨Nat.zero_le _, Nat.zero_le _⟩) hS (fun _ h => h) (fun r_42 M_42 H locs hP hS hF => ?_)
          exact retI S hr hlocks hP hS hF dX7_place_67
      · have hF := hF.2 c_7
        refine lv_aload_n hx hb dX7_place_35 rfl (lv_at hl 0 rfl) ?_
        refine gF S hK hP i7 e_M rfl 4 (by decide) k9 f_M_lanes dX7_place_36 ?_
        refine lv_iload_n hx hb dX7_place_39 rfl (lv_at hl 1 rfl) ?_
        obtain ⟨hb_43, hF⟩ := hF
        refine ldA S hK hP (k := 33) rfl hb_43 dX7_place_40 ?_
        refine lv_iload_n hx hb dX7_place_41 rfl (lv_at hl 2 rfl) ?_
        refine lv_icmp_eq (tgt := 51) hx hb dX7_place_42 (by decide) (fun c_44 => ?_) (fun c_44 => ?_)
        · have hF := hF.1 c_44
          refine lv_aload_n hx hb dX7_place_51 rfl (lv_at hl 0 rfl) ?_
          refine gF S hK hP i7 e_M rfl 4 (by decide) k9 f_M_lanes dX7_place_52 ?_
          refine lv_iload_n hx hb dX7_place_55 rfl (lv_at hl 1 rfl) ?_
          obtain ⟨hb_45, hF⟩ := hF
          refine ldA S hK hP (k := 33) rfl hb_45 dX7_place_56 ?_
          refine lv_bipush (v := -9) hx hb dX7_place_57 (by decide) ?_
          refine lv_icmp_ne (tgt := 68) hx hb dX7_place_59 (by decide) (fun c_46 => ?_) (fun c_46 => ?_)
          · have hF := hF.2 c_46
            refine lv_iload hx hb dX7_place_68 (lv_at hl 4 rfl) ?_
            refine lv_if_ge (tgt := 79) hx hb dX7_place_70 (by decide) (fun c_47 => ?_) (fun c_47 => ?_)
            · have hF := hF.1 c_47
              refine lv_iload_n hx hb dX7_place_79 rfl (lv_at hl 3 rfl) ?_
              refine lv_if_lt (tgt := 106) hx hb dX7_place_80 (by decide) (fun c_48 => ?_) (fun c_48 => ?_)
              · have hF := hF.1 c_48
                refine lv_aload_n hx hb dX7_place_106 rfl (lv_at hl 0 rfl) ?_
                refine lv_iconst (v := 3) hx hb dX7_place_107 (by decide) ?_
                refine goI (rV (rest := []) S hK hP (ctX7_fails l D cI cJ ad had (3 : Int32) _ _ hF) (cwV 1 hts gX7_place_X7_fails rfl rfl rfl hdV_X7_fails ⟨Nat.le_of_ble_eq_true rfl, Nat.le_of_ble_eq_true rfl⟩) e_M rfl rfl hl.1 rfl (Nat.le_of_ble_eq_true rfl) dX7_place_108 ⟨Nat.zero_le _, Nat.zero_le _⟩) hS (fun _ h => h) (fun r_49 M_49 H locs hP hS hF => ?_)
                exact retI S hr hlocks hP hS hF dX7_place_111
              · have hF := hF.2 c_48
                refine lv_iload_n hx hb dX7_place_83 rfl (lv_at hl 3 rfl) ?_
                refine lv_aload_n hx hb dX7_place_84 rfl (lv_at hl 0 rfl) ?_
                refine gF S hK hP i7 e_M rfl 5 (by decide) k13 f_M_sheetLong dX7_place_85 ?_
                refine lv_iload_n hx hb dX7_place_88 rfl (lv_at hl 1 rfl) ?_
                obtain ⟨hb_50, hF⟩ := hF
                refine ldA S hK hP (k := 34) rfl hb_50 dX7_place_89 ?_
                refine lv_icmp_gt (tgt := 106) hx hb dX7_place_90 (by decide) (fun c_51 => ?_) (fun c_51 => ?_)
                · have hF := hF.1 c_51
                  refine lv_aload_n hx hb dX7_place_106 rfl (lv_at hl 0 rfl) ?_
                  refine lv_iconst (v := 3) hx hb dX7_place_107 (by decide) ?_
                  refine goI (rV (rest := []) S hK hP (ctX7_fails l D cI cJ ad had (3 : Int32) _ _ hF) (cwV 1 hts gX7_place_X7_fails rfl rfl rfl hdV_X7_fails ⟨Nat.le_of_ble_eq_true rfl, Nat.le_of_ble_eq_true rfl⟩) e_M rfl rfl hl.1 rfl (Nat.le_of_ble_eq_true rfl) dX7_place_108 ⟨Nat.zero_le _, Nat.zero_le _⟩) hS (fun _ h => h) (fun r_52 M_52 H locs hP hS hF => ?_)
                  exact retI S hr hlocks hP hS hF dX7_place_111
                · have hF := hF.2 c_51
                  refine lv_iload hx hb dX7_place_93 (lv_at hl 4 rfl) ?_
                  refine lv_aload_n hx hb dX7_place_95 rfl (lv_at hl 0 rfl) ?_
                  refine gF S hK hP i7 e_M rfl 5 (by decide) k13 f_M_sheetLong dX7_place_96 ?_
                  refine lv_iload_n hx hb dX7_place_99 rfl (lv_at hl 1 rfl) ?_
                  obtain ⟨hb_53, hF⟩ := hF
                  refine ldA S hK hP (k := 34) rfl hb_53 dX7_place_100 ?_
                  refine lv_iload_n hx hb dX7_place_101 rfl (lv_at hl 3 rfl) ?_
                  refine lv_isub hx hb dX7_place_102 ?_
                  refine lv_icmp_le (tgt := 112) hx hb dX7_place_103 (by decide) (fun c_54 => ?_) (fun c_54 => ?_)
                  · have hF := hF.1 c_54
                    refine lv_bipush (v := 60) hx hb dX7_place_112 (by decide) ?_
                    refine lv_iload_n hx hb dX7_place_114 rfl (lv_at hl 1 rfl) ?_
                    refine lv_imul hx hb dX7_place_115 ?_
                    refine lv_iload_n hx hb dX7_place_116 rfl (lv_at hl 3 rfl) ?_
                    refine lv_iadd hx hb dX7_place_117 ?_
                    refine lv_istore (lv' := [(5, .int (((60 : Int32) * a1) + a3)), (0, .ref (ad 32)), (1, .int a1), (2, .int a2), (3, .int a3), (4, .int a4)]) hx hb dX7_place_118 hl (by decide) rfl (fun ls hl => ?_)
                    refine lv_aload_n hx hb dX7_place_120 rfl (lv_at hl 1 rfl) ?_
                    refine lv_iload hx hb dX7_place_121 (lv_at hl 0 rfl) ?_
                    refine pF S hK had hP hS i7 tyX7_ok nmX7 e_M rfl 17 (by decide) k98 rfl rfl rfl (Nat.lt_of_lt_of_eq (by decide) len_M.symm) s_M_at dX7_place_123 (fun M_55 H locs eM_55 hP hS => ?_)
                    have hF := hF M_55 eM_55
                    refine lv_aload_n hx hb dX7_place_126 rfl (lv_at hl 1 rfl) ?_
                    refine lv_iload hx hb dX7_place_127 (lv_at hl 0 rfl) ?_
                    refine lv_iload hx hb dX7_place_129 (lv_at hl 5 rfl) ?_
                    refine lv_iadd hx hb dX7_place_131 ?_
                    refine pF S hK had hP hS i7 tyX7_ok nmX7 e_M rfl 18 (by decide) k101 rfl rfl rfl (Nat.lt_of_lt_of_eq (by decide) len_M.symm) s_M_end dX7_place_132 (fun M_56 H locs eM_56 hP hS => ?_)
                    have hF := hF M_56 eM_56
                    refine lv_aload_n hx hb dX7_place_135 rfl (lv_at hl 1 rfl) ?_
                    refine goZ (rV (rest := []) S hK hP (ctX7_readsAll l D cI cJ ad had  _ _ hF) (cwV 0 hts gX7_place_X7_readsAll rfl rfl rfl hdV_X7_readsAll ⟨Nat.le_of_ble_eq_true rfl, Nat.le_of_ble_eq_true rfl⟩) e_M rfl rfl hl.1 rfl (Nat.le_of_ble_eq_true rfl) dX7_place_136 ⟨Nat.zero_le _, Nat.zero_le _⟩) hS (fun _ h => h) (fun r_57 M_57 H locs hP hS hz_r_57 hF => ?_)
                    refine lv_if_ne (tgt := 153) hx hb dX7_place_139 (by decide) (fun c_58 => ?_) (fun c_58 => ?_)
                    · have hF := hF.2 c_58
                      refine lv_aload_n hx hb dX7_place_153 rfl (lv_at hl 1 rfl) ?_
                      refine lv_iconst (v := 1) hx hb dX7_place_154 (by decide) ?_
                      refine pF S hK had hP hS i7 tyX7_ok nmX7 e_M rfl 7 (by decide) k142 rfl rfl rfl (Nat.lt_of_lt_of_eq (by decide) len_M.symm) s_M_isPlace dX7_place_155 (fun M_59 H locs eM_59 hP hS => ?_)
                      have hF := hF M_59 eM_59
                      refine lv_aload_n hx hb dX7_place_158 rfl (lv_at hl 1 rfl) ?_
                      refine lv_aload_n hx hb dX7_place_159 rfl (lv_at hl 1 rfl) ?_
                      refine gF S hK hP i7 e_M rfl 19 (by decide) k119 f_M_readServed dX7_place_160 ?_
                      refine pF S hK had hP hS i7 tyX7_ok nmX7 e_M rfl 8 (by decide) k146 rfl rfl rfl (Nat.lt_of_lt_of_eq (by decide) len_M.symm) s_M_served dX7_place_163 (fun M_60 H locs eM_60 hP hS => ?_)
                      have hF := hF M_60 eM_60
                      refine lv_aload_n hx hb dX7_place_166 rfl (lv_at hl 1 rfl) ?_
                      refine lv_aload_n hx hb dX7_place_167 rfl (lv_at hl 1 rfl) ?_
                      refine gF S hK hP i7 e_M rfl 20 (by decide) k122 f_M_readCost dX7_place_168 ?_
                      refine pF S hK had hP hS i7 tyX7_ok nmX7 e_M rfl 9 (by decide) k149 rfl rfl rfl (Nat.lt_of_lt_of_eq (by decide) len_M.symm) s_M_cost dX7_place_171 (fun M_61 H locs eM_61 hP hS => ?_)
                      have hF := hF M_61 eM_61
                      refine lv_aload_n hx hb dX7_place_174 rfl (lv_at hl 1 rfl) ?_
                      refine lv_aload_n hx hb dX7_place_175 rfl (lv_at hl 1 rfl) ?_
                      refine gF S hK hP i7 e_M rfl 21 (by decide) k112 f_M_readSorts dX7_place_176 ?_
                      refine pF S hK had hP hS i7 tyX7_ok nmX7 e_M rfl 10 (by decide) k152 rfl rfl rfl (Nat.lt_of_lt_of_eq (by decide) len_M.symm) s_M_sorts dX7_place_179 (fun M_62 H locs eM_62 hP hS => ?_)
                      have hF := hF M_62 eM_62
                      refine lv_iconst (v := 0) hx hb dX7_place_182 (by decide) ?_
                      refine lv_istore (lv' := [(6, .int (0 : Int32)), (5, .int (((60 : Int32) * a1) + a3)), (0, .ref (ad 32)), (1, .int a1), (2, .int a2), (3, .int a3), (4, .int a4)]) hx hb dX7_place_183 hl (by decide) rfl (fun ls hl => ?_)
                      have key_185 : ∀ (x6_185 : Int32) (m185 : Mm), (lX7_place_185 Q x6_185 m185) → Wc p l e ({ frames := 4, cells := 0, slots := 0, locals := 89 } : Room) s m args below meth c D cI cJ ad (MQ below (QiW D cI cJ ad Q) args s 0 0 (Fr ad)) 7 185 [(0, .ref (ad 32)), (6, .int x6_185)] m185 := by
                        intro x6_185 m185 hL
                        refine hL (fun x6_185 m185 => Wc p l e ({ frames := 4, cells := 0, slots := 0, locals := 89 } : Room) s m args below meth c D cI cJ ad (MQ below (QiW D cI cJ ad Q) args s 0 0 (Fr ad)) 7 185 [(0, .ref (ad 32)), (6, .int x6_185)] m185) ?_
                        intro J_185 hJ_185 x6_185 m185 hF H locs ls hP hS hl
                        unfold bX7_place_185 at hF
                        refine lv_iload hx hb dX7_place_185 (lv_at hl 1 rfl) ?_
                        refine lv_aload_n hx hb dX7_place_187 rfl (lv_at hl 0 rfl) ?_
                        refine gF S hK hP i7 e_M rfl 10 (by decide) k152 f_M_sorts dX7_place_188 ?_
                        refine lv_icmp_ge (tgt := 236) hx hb dX7_place_191 (by decide) (fun c_63 => ?_) (fun c_63 => ?_)
                        · have hF := hF.1 c_63
                          refine lv_aload_n hx hb dX7_place_236 rfl (lv_at hl 0 rfl) ?_
                          refine lv_iconst (v := 0) hx hb dX7_place_237 (by decide) ?_
                          refine pF S hK had hP hS i7 tyX7_ok nmX7 e_M rfl 14 (by decide) k155 rfl rfl rfl (Nat.lt_of_lt_of_eq (by decide) len_M.symm) s_M_toll dX7_place_238 (fun M_64 H locs eM_64 hP hS => ?_)
                          have hF := hF M_64 eM_64
                          refine lv_aload_n hx hb dX7_place_241 rfl (lv_at hl 0 rfl) ?_
                          refine lv_iconst (v := 0) hx hb dX7_place_242 (by decide) ?_
                          refine pF S hK had hP hS i7 tyX7_ok nmX7 e_M rfl 15 (by decide) k158 rfl rfl rfl (Nat.lt_of_lt_of_eq (by decide) len_M.symm) s_M_step dX7_place_243 (fun M_65 H locs eM_65 hP hS => ?_)
                          have hF := hF M_65 eM_65
                          refine lv_aload_n hx hb dX7_place_246 rfl (lv_at hl 0 rfl) ?_
                          refine lv_iconst (v := 0) hx hb dX7_place_247 (by decide) ?_
                          refine pF S hK had hP hS i7 tyX7_ok nmX7 e_M rfl 16 (by decide) k161 rfl rfl rfl (Nat.lt_of_lt_of_eq (by decide) len_M.symm) s_M_lie dX7_place_248 (fun M_66 H locs eM_66 hP hS => ?_)
                          have hF := hF M_66 eM_66
                          refine lv_aload_n hx hb dX7_place_251 rfl (lv_at hl 0 rfl) ?_
                          refine lv_iconst (v := 0) hx hb dX7_place_252 (by decide) ?_
                          refine pF S hK had hP hS i7 tyX7_ok nmX7 e_M rfl 32 (by decide) k164 rfl rfl rfl (Nat.lt_of_lt_of_eq (by decide) len_M.symm) s_M_comers dX7_place_253 (fun M_67 H locs eM_67 hP hS => ?_)
                          have hF := hF M_67 eM_67
                          refine lv_aload_n hx hb dX7_place_256 rfl (lv_at hl 0 rfl) ?_
                          refine lv_iconst (v := 0) hx hb dX7_place_257 (by decide) ?_
                          refine pF S hK had hP hS i7 tyX7_ok nmX7 e_M rfl 33 (by decide) k167 rfl rfl rfl (Nat.lt_of_lt_of_eq (by decide) len_M.symm) s_M_minutes dX7_place_258 (fun M_68 H locs eM_68 hP hS => ?_)
                          have hF := hF M_68 eM_68
                          refine lv_aload_n hx hb dX7_place_261 rfl (lv_at hl 0 rfl) ?_
                          refine gF S hK hP i7 e_M rfl 10 (by decide) k152 f_M_sorts dX7_place_262 ?_
                          exact retI S hr hlocks hP hS hF dX7_place_265
                        · have hF := hF.2 c_63
                          refine lv_aload_n hx hb dX7_place_194 rfl (lv_at hl 0 rfl) ?_
                          refine gF S hK hP i7 e_M rfl 11 (by decide) k19 f_M_twelfths dX7_place_195 ?_
                          refine lv_iload hx hb dX7_place_198 (lv_at hl 1 rfl) ?_
                          refine lv_aload_n hx hb dX7_place_200 rfl (lv_at hl 0 rfl) ?_
                          refine gF S hK hP i7 e_M rfl 22 (by decide) k28 f_M_readTwelfths dX7_place_201 ?_
                          refine lv_iload hx hb dX7_place_204 (lv_at hl 1 rfl) ?_
                          obtain ⟨hb_69, hF⟩ := hF
                          refine ldA S hK hP (k := 39) rfl hb_69 dX7_place_206 ?_
                          obtain ⟨hb_71, hF⟩ := hF
                          refine stA S hK had hP hS (k := 36) rfl hb_71 dX7_place_207 (fun M_70 H locs eM_70 hP hS => ?_)
                          have hF := hF M_70 eM_70
                          refine lv_aload_n hx hb dX7_place_208 rfl (lv_at hl 0 rfl) ?_
                          refine gF S hK hP i7 e_M rfl 12 (by decide) k22 f_M_worths dX7_place_209 ?_
                          refine lv_iload hx hb dX7_place_212 (lv_at hl 1 rfl) ?_
                          refine lv_aload_n hx hb dX7_place_214 rfl (lv_at hl 0 rfl) ?_
                          refine gF S hK hP i7 e_M rfl 23 (by decide) k31 f_M_readWorths dX7_place_215 ?_
                          refine lv_iload hx hb dX7_place_218 (lv_at hl 1 rfl) ?_
                          obtain ⟨hb_72, hF⟩ := hF
                          refine ldA S hK hP (k := 40) rfl hb_72 dX7_place_220 ?_
                          obtain ⟨hb_74, hF⟩ := hF
                          refine stA S hK had hP hS (k := 37) rfl hb_74 dX7_place_221 (fun M_73 H locs eM_73 hP hS => ?_)
                          have hF := hF M_73 eM_73
                          refine lv_aload_n hx hb dX7_place_222 rfl (lv_at hl 0 rfl) ?_
                          refine gF S hK hP i7 e_M rfl 13 (by decide) k25 f_M_bars dX7_place_223 ?_
                          refine lv_iload hx hb dX7_place_226 (lv_at hl 1 rfl) ?_
                          refine lv_iconst (v := 0) hx hb dX7_place_228 (by decide) ?_
                          obtain ⟨hb_76, hF⟩ := hF
                          refine stA S hK had hP hS (k := 38) rfl hb_76 dX7_place_229 (fun M_75 H locs eM_75 hP hS => ?_)
                          have hF := hF M_75 eM_75
                          refine lv_iinc (v := (x6_185 + 1)) (lv' := [(6, .int (x6_185 + 1)), (0, .ref (ad 32))]) hx hb dX7_place_230 hl (k := 1) rfl rfl (by decide) rfl (fun ls hl => ?_)
                          refine lv_goto (tgt := 185) hx hb dX7_place_233 (by decide) ?_
                          exact hJ_185 _ _ hF _ _ _ hP hS (lv_sub hl [1, 0] rfl)
                      exact key_185 _ _ hF _ _ _ hP hS (lv_sub hl [2, 0] rfl)
                    · have hF := hF.1 c_58
                      refine lv_bipush (v := -100) hx hb dX7_place_142 (by decide) ?_
                      refine lv_aload_n hx hb dX7_place_144 rfl (lv_at hl 1 rfl) ?_
                      refine gF S hK hP i7 e_M rfl 17 (by decide) k98 f_M_at dX7_place_145 ?_
                      refine lv_iload hx hb dX7_place_148 (lv_at hl 0 rfl) ?_
                      refine lv_isub hx hb dX7_place_150 ?_
                      refine lv_isub hx hb dX7_place_151 ?_
                      exact retI S hr hlocks hP hS hF dX7_place_152
                  · have hF := hF.2 c_54
                    refine lv_aload_n hx hb dX7_place_106 rfl (lv_at hl 0 rfl) ?_
                    refine lv_iconst (v := 3) hx hb dX7_place_107 (by decide) ?_
                    refine goI (rV (rest := []) S hK hP (ctX7_fails l D cI cJ ad had (3 : Int32) _ _ hF) (cwV 1 hts gX7_place_X7_fails rfl rfl rfl hdV_X7_fails ⟨Nat.le_of_ble_eq_true rfl, Nat.le_of_ble_eq_true rfl⟩) e_M rfl rfl hl.1 rfl (Nat.le_of_ble_eq_true rfl) dX7_place_108 ⟨Nat.zero_le _, Nat.zero_le _⟩) hS (fun _ h => h) (fun r_77 M_77 H locs hP hS hF => ?_)
                    exact retI S hr hlocks hP hS hF dX7_place_111
            · have hF := hF.2 c_47
              refine lv_aload_n hx hb dX7_place_73 rfl (lv_at hl 0 rfl) ?_
              refine lv_iconst (v := 4) hx hb dX7_place_74 (by decide) ?_
              refine goI (rV (rest := []) S hK hP (ctX7_fails l D cI cJ ad had (4 : Int32) _ _ hF) (cwV 1 hts gX7_place_X7_fails rfl rfl rfl hdV_X7_fails ⟨Nat.le_of_ble_eq_true rfl, Nat.le_of_ble_eq_true rfl⟩) e_M rfl rfl hl.1 rfl (Nat.le_of_ble_eq_true rfl) dX7_place_75 ⟨Nat.zero_le _, Nat.zero_le _⟩) hS (fun _ h => h) (fun r_78 M_78 H locs hP hS hF => ?_)
              exact retI S hr hlocks hP hS hF dX7_place_78
          · have hF := hF.1 c_46
            refine lv_aload_n hx hb dX7_place_62 rfl (lv_at hl 0 rfl) ?_
            refine lv_iconst (v := 1) hx hb dX7_place_63 (by decide) ?_
            refine goI (rV (rest := []) S hK hP (ctX7_fails l D cI cJ ad had (1 : Int32) _ _ hF) (cwV 1 hts gX7_place_X7_fails rfl rfl rfl hdV_X7_fails ⟨Nat.le_of_ble_eq_true rfl, Nat.le_of_ble_eq_true rfl⟩) e_M rfl rfl hl.1 rfl (Nat.le_of_ble_eq_true rfl) dX7_place_64 ⟨Nat.zero_le _, Nat.zero_le _⟩) hS (fun _ h => h) (fun r_79 M_79 H locs hP hS hF => ?_)
            exact retI S hr hlocks hP hS hF dX7_place_67
        · have hF := hF.2 c_44
          refine lv_aload_n hx hb dX7_place_45 rfl (lv_at hl 0 rfl) ?_
          refine lv_iconst (v := 2) hx hb dX7_place_46 (by decide) ?_
          refine goI (rV (rest := []) S hK hP (ctX7_fails l D cI cJ ad had (2 : Int32) _ _ hF) (cwV 1 hts gX7_place_X7_fails rfl rfl rfl hdV_X7_fails ⟨Nat.le_of_ble_eq_true rfl, Nat.le_of_ble_eq_true rfl⟩) e_M rfl rfl hl.1 rfl (Nat.le_of_ble_eq_true rfl) dX7_place_47 ⟨Nat.zero_le _, Nat.zero_le _⟩) hS (fun _ h => h) (fun r_80 M_80 H locs hP hS hF => ?_)
          exact retI S hr hlocks hP hS hF dX7_place_50
    · have hF := hF.1 c_5
      refine lv_bipush (v := -2) hx hb dX7_place_21 (by decide) ?_
      exact retI S hr hlocks hP hS hF dX7_place_23
  · have hF := hF.1 c_3
    refine lv_iconst (v := -1) hx hb dX7_place_12 (by decide) ?_
    exact retI S hr hlocks hP hS hF dX7_place_13
def bX7_allTwelfths_4 (Q : Int32 → Mm → Prop) (J_4 : Int32 → Int32 → Mm → Prop) (x1_4 : Int32) (x2_4 : Int32) (m4 : Mm) : Prop := (((gi m4 31) ≤ x2_4 → (Q x1_4 m4)) ∧ (¬ (gi m4 31) ≤ x2_4 → (vp_in x2_4 3 ∧ (J_4 (x1_4 + (ga m4 36 x2_4.toNatClampNeg)) (x2_4 + 1) m4))))
def lX7_allTwelfths_4 (Q : Int32 → Mm → Prop) (x1_4 : Int32) (x2_4 : Int32) (m4 : Mm) : Prop := ∀ I : Int32 → Int32 → Mm → Prop, (∀ J : Int32 → Int32 → Mm → Prop, (∀ (x1_4 : Int32) (x2_4 : Int32) (m : Mm), J x1_4 x2_4 m → I x1_4 x2_4 m) → ∀ (x1_4 : Int32) (x2_4 : Int32) (m : Mm), bX7_allTwelfths_4 Q J x1_4 x2_4 m → I x1_4 x2_4 m) → I x1_4 x2_4 m4
theorem lX7_allTwelfths_4_mk (Q : Int32 → Mm → Prop) (x1_4 : Int32) (x2_4 : Int32) (m4 : Mm) (h : bX7_allTwelfths_4 Q (lX7_allTwelfths_4 Q) x1_4 x2_4 m4) : lX7_allTwelfths_4 Q x1_4 x2_4 m4 := fun I hI => hI (lX7_allTwelfths_4 Q) (fun _ _ _ q => q I hI) _ _ _ h
def wX7_allTwelfths (Q : Int32 → Mm → Prop) (M : Mm) : Prop := (lX7_allTwelfths_4 Q (0 : Int32) (0 : Int32) M)
set_option maxHeartbeats 4000000 in
set_option maxRecDepth 100000 in
theorem ctX7_allTwelfths (l : Launch) (D : va_G) (cI cJ : ClassId) (ad : Nat → Nat) (had : inj54 ad)  (Q : Int32 → Mm → Prop) (M : Mm) (hF : wX7_allTwelfths Q M) : Met l yX7_allTwelfths wsX7_allTwelfths ({ frames := 0, cells := 0, slots := 0, locals := 0 } : Room) (PcW D cI cJ ad M [.ref (ad 32)]) (QiW D cI cJ ad Q) 0 0 (Fr ad) := by
  refine entW (y := yX7_allTwelfths) (ret := some .int) (maxL := 3) (plainFor_of_name (by decide)) rfl (Nat.le_of_ble_eq_true rfl) ?_
  intro p e s m args below meth c ls S hK hr hlocks hP hS hl
  have hx := S.1
  have hb := S.2.1
  have hown := S.2.2.2.1
  have hts := S.2.2.2.2
  have i7 : ∀ w ∈ wsX70, w ∈ wsX7_allTwelfths := by decide +kernel
  have k152 := hts (.fieldLink RX7 152 "RopeLineModel" "sorts" "I") (by decide +kernel)
  have k19 := hts (.fieldLink RX7 19 "RopeLineModel" "twelfths" "[I") (by decide +kernel)
  have hl : lv_has ls 3 [(0, .ref (ad 32))] := hl
  unfold wX7_allTwelfths at hF
  refine lv_iconst (v := 0) hx hb dX7_allTwelfths_0 (by decide) ?_
  refine lv_istore_n (lv' := [(1, .int (0 : Int32)), (0, .ref (ad 32))]) hx hb dX7_allTwelfths_1 rfl hl (by decide) rfl (fun ls hl => ?_)
  refine lv_iconst (v := 0) hx hb dX7_allTwelfths_2 (by decide) ?_
  refine lv_istore_n (lv' := [(2, .int (0 : Int32)), (1, .int (0 : Int32)), (0, .ref (ad 32))]) hx hb dX7_allTwelfths_3 rfl hl (by decide) rfl (fun ls hl => ?_)
  have key_4 : ∀ (x1_4 : Int32) (x2_4 : Int32) (m4 : Mm), (lX7_allTwelfths_4 Q x1_4 x2_4 m4) → Wc p l e ({ frames := 0, cells := 0, slots := 0, locals := 0 } : Room) s m args below meth c D cI cJ ad (MQ below (QiW D cI cJ ad Q) args s 0 0 (Fr ad)) 3 4 [(0, .ref (ad 32)), (1, .int x1_4), (2, .int x2_4)] m4 := by
    intro x1_4 x2_4 m4 hL
    refine hL (fun x1_4 x2_4 m4 => Wc p l e ({ frames := 0, cells := 0, slots := 0, locals := 0 } : Room) s m args below meth c D cI cJ ad (MQ below (QiW D cI cJ ad Q) args s 0 0 (Fr ad)) 3 4 [(0, .ref (ad 32)), (1, .int x1_4), (2, .int x2_4)] m4) ?_
    intro J_4 hJ_4 x1_4 x2_4 m4 hF H locs ls hP hS hl
    unfold bX7_allTwelfths_4 at hF
    refine lv_iload_n hx hb dX7_allTwelfths_4 rfl (lv_at hl 2 rfl) ?_
    refine lv_aload_n hx hb dX7_allTwelfths_5 rfl (lv_at hl 0 rfl) ?_
    refine gF S hK hP i7 e_M rfl 10 (by decide) k152 f_M_sorts dX7_allTwelfths_6 ?_
    refine lv_icmp_ge (tgt := 27) hx hb dX7_allTwelfths_9 (by decide) (fun c_1 => ?_) (fun c_1 => ?_)
    · have hF := hF.1 c_1
      refine lv_iload_n hx hb dX7_allTwelfths_27 rfl (lv_at hl 1 rfl) ?_
      exact retI S hr hlocks hP hS hF dX7_allTwelfths_28
    · have hF := hF.2 c_1
      refine lv_iload_n hx hb dX7_allTwelfths_12 rfl (lv_at hl 1 rfl) ?_
      refine lv_aload_n hx hb dX7_allTwelfths_13 rfl (lv_at hl 0 rfl) ?_
      refine gF S hK hP i7 e_M rfl 11 (by decide) k19 f_M_twelfths dX7_allTwelfths_14 ?_
      refine lv_iload_n hx hb dX7_allTwelfths_17 rfl (lv_at hl 2 rfl) ?_
      obtain ⟨hb_2, hF⟩ := hF
      refine ldA S hK hP (k := 36) rfl hb_2 dX7_allTwelfths_18 ?_
      refine lv_iadd hx hb dX7_allTwelfths_19 ?_
      refine lv_istore_n (lv' := [(1, .int (x1_4 + (ga m4 36 x2_4.toNatClampNeg))), (0, .ref (ad 32)), (2, .int x2_4)]) hx hb dX7_allTwelfths_20 rfl hl (by decide) rfl (fun ls hl => ?_)
      refine lv_iinc (v := (x2_4 + 1)) (lv' := [(2, .int (x2_4 + 1)), (1, .int (x1_4 + (ga m4 36 x2_4.toNatClampNeg))), (0, .ref (ad 32))]) hx hb dX7_allTwelfths_21 hl (k := 2) rfl rfl (by decide) rfl (fun ls hl => ?_)
      refine lv_goto (tgt := 4) hx hb dX7_allTwelfths_24 (by decide) ?_
      exact hJ_4 _ _ _ hF _ _ _ hP hS (lv_sub hl [2, 1, 0] rfl)
  exact key_4 _ _ _ hF _ _ _ hP hS (lv_sub hl [2, 1, 0] rfl)
def wX7_about (a1 : Int32) (Q : Int32 → Mm → Prop) (M : Mm) : Prop := (wX7_within a1 (0 : Int32) (5 : Int32) (fun r_1 M_1 => ((r_1 = 0 → (Q (-2 : Int32) M_1)) ∧ (¬ r_1 = 0 → (((gi M_1 28) = 0 → (Q (-3 : Int32) M_1)) ∧ (¬ (gi M_1 28) = 0 → ((a1 = 0 → (Q (gi M_1 29) M_1)) ∧ (¬ a1 = 0 → ((a1 = 1 → (Q (gi M_1 30) M_1)) ∧ (¬ a1 = 1 → ((a1 = 2 → (wX7_allTwelfths (fun r_7 M_7 => (Q r_7 M_7)) M_1)) ∧ (¬ a1 = 2 → ((a1 = 3 → (Q (gi M_1 32) M_1)) ∧ (¬ a1 = 3 → ((a1 = 4 → (Q (gi M_1 33) M_1)) ∧ (¬ a1 = 4 → (Q (gi M_1 34) M_1)))))))))))))))) M)
set_option maxHeartbeats 4000000 in
set_option maxRecDepth 100000 in
theorem ctX7_about (l : Launch) (D : va_G) (cI cJ : ClassId) (ad : Nat → Nat) (had : inj54 ad) (a1 : Int32) (Q : Int32 → Mm → Prop) (M : Mm) (hF : wX7_about a1 Q M) : Met l yX7_about wsX7_about ({ frames := 1, cells := 0, slots := 0, locals := 22 } : Room) (PcW D cI cJ ad M [.ref (ad 32), .int a1]) (QiW D cI cJ ad Q) 0 0 (Fr ad) := by
  refine entW (y := yX7_about) (ret := some .int) (maxL := 2) (plainFor_of_name (by decide)) rfl (Nat.le_of_ble_eq_true rfl) ?_
  intro p e s m args below meth c ls S hK hr hlocks hP hS hl
  have hx := S.1
  have hb := S.2.1
  have hown := S.2.2.2.1
  have hts := S.2.2.2.2
  have i7 : ∀ w ∈ wsX70, w ∈ wsX7_about := by decide +kernel
  have k142 := hts (.fieldLink RX7 142 "RopeLineModel" "isPlace" "Z") (by decide +kernel)
  have k146 := hts (.fieldLink RX7 146 "RopeLineModel" "served" "I") (by decide +kernel)
  have k149 := hts (.fieldLink RX7 149 "RopeLineModel" "cost" "I") (by decide +kernel)
  have k155 := hts (.fieldLink RX7 155 "RopeLineModel" "toll" "I") (by decide +kernel)
  have k158 := hts (.fieldLink RX7 158 "RopeLineModel" "step" "I") (by decide +kernel)
  have k161 := hts (.fieldLink RX7 161 "RopeLineModel" "lie" "I") (by decide +kernel)
  have hl : lv_has ls 2 [(0, .ref (ad 32)), (1, .int a1)] := hl
  unfold wX7_about at hF
  refine lv_iload_n hx hb dX7_about_0 rfl (lv_at hl 1 rfl) ?_
  refine lv_iconst (v := 0) hx hb dX7_about_1 (by decide) ?_
  refine lv_iconst (v := 5) hx hb dX7_about_2 (by decide) ?_
  refine goZ (rS (rest := []) S hK hP (ctX7_within l D cI cJ ad had a1 (0 : Int32) (5 : Int32) _ _ hF) (va_cwS 3 hts gX7_about_X7_within rfl rfl rfl hdS_X7_within ⟨Nat.le_of_ble_eq_true rfl, Nat.le_of_ble_eq_true rfl⟩) rfl hl.1 rfl (Nat.le_of_ble_eq_true rfl) dX7_about_3 ⟨Nat.zero_le _, Nat.zero_le _⟩) hS (fun _ h => h) (fun r_1 M_1 H locs hP hS hz_r_1 hF => ?_)
  refine lv_if_ne (tgt := 12) hx hb dX7_about_6 (by decide) (fun c_2 => ?_) (fun c_2 => ?_)
  · have hF := hF.2 c_2
    refine lv_aload_n hx hb dX7_about_12 rfl (lv_at hl 0 rfl) ?_
    refine gF S hK hP i7 e_M rfl 7 (by decide) k142 f_M_isPlace dX7_about_13 ?_
    refine lv_if_ne (tgt := 22) hx hb dX7_about_16 (by decide) (fun c_3 => ?_) (fun c_3 => ?_)
    · have hF := hF.2 c_3
      refine lv_iload_n hx hb dX7_about_22 rfl (lv_at hl 1 rfl) ?_
      by_cases c_4 : a1 = 0
      · have hF := hF.1 c_4
        refine lv_tableIn (off := 33) (tgt := 56) hx hb dX7_about_23 (by rw [c_4]; decide) (by rw [c_4]; decide) (by rw [c_4]; rfl) (by decide) ?_
        refine lv_aload_n hx hb dX7_about_56 rfl (lv_at hl 0 rfl) ?_
        refine gF S hK hP i7 e_M rfl 8 (by decide) k146 f_M_served dX7_about_57 ?_
        exact retI S hr hlocks hP hS hF dX7_about_60
      · have hF := hF.2 c_4
        by_cases c_5 : a1 = 1
        · have hF := hF.1 c_5
          refine lv_tableIn (off := 38) (tgt := 61) hx hb dX7_about_23 (by rw [c_5]; decide) (by rw [c_5]; decide) (by rw [c_5]; rfl) (by decide) ?_
          refine lv_aload_n hx hb dX7_about_61 rfl (lv_at hl 0 rfl) ?_
          refine gF S hK hP i7 e_M rfl 9 (by decide) k149 f_M_cost dX7_about_62 ?_
          exact retI S hr hlocks hP hS hF dX7_about_65
        · have hF := hF.2 c_5
          by_cases c_6 : a1 = 2
          · have hF := hF.1 c_6
            refine lv_tableIn (off := 43) (tgt := 66) hx hb dX7_about_23 (by rw [c_6]; decide) (by rw [c_6]; decide) (by rw [c_6]; rfl) (by decide) ?_
            refine lv_aload_n hx hb dX7_about_66 rfl (lv_at hl 0 rfl) ?_
            refine goI (rV (rest := []) S hK hP (ctX7_allTwelfths l D cI cJ ad had  _ _ hF) (cwV 0 hts gX7_about_X7_allTwelfths rfl rfl rfl hdV_X7_allTwelfths ⟨Nat.le_of_ble_eq_true rfl, Nat.le_of_ble_eq_true rfl⟩) e_M rfl rfl hl.1 rfl (Nat.le_of_ble_eq_true rfl) dX7_about_67 ⟨Nat.zero_le _, Nat.zero_le _⟩) hS (fun _ h => h) (fun r_7 M_7 H locs hP hS hF => ?_)
            exact retI S hr hlocks hP hS hF dX7_about_70
          · have hF := hF.2 c_6
            by_cases c_8 : a1 = 3
            · have hF := hF.1 c_8
              refine lv_tableIn (off := 48) (tgt := 71) hx hb dX7_about_23 (by rw [c_8]; decide) (by rw [c_8]; decide) (by rw [c_8]; rfl) (by decide) ?_
              refine lv_aload_n hx hb dX7_about_71 rfl (lv_at hl 0 rfl) ?_
              refine gF S hK hP i7 e_M rfl 14 (by decide) k155 f_M_toll dX7_about_72 ?_
              exact retI S hr hlocks hP hS hF dX7_about_75
            · have hF := hF.2 c_8
              by_cases c_9 : a1 = 4
              · have hF := hF.1 c_9
                refine lv_tableIn (off := 53) (tgt := 76) hx hb dX7_about_23 (by rw [c_9]; decide) (by rw [c_9]; decide) (by rw [c_9]; rfl) (by decide) ?_
                refine lv_aload_n hx hb dX7_about_76 rfl (lv_at hl 0 rfl) ?_
                refine gF S hK hP i7 e_M rfl 15 (by decide) k158 f_M_step dX7_about_77 ?_
                exact retI S hr hlocks hP hS hF dX7_about_80
              · have hF := hF.2 c_9
                refine lv_tableOut (tgt := 81) hx hb dX7_about_23 (by have q0 := lv_neT c_4 (k := 0) (a := 0) (by decide); have q1 := lv_neT c_5 (k := 1) (a := 1) (by decide); have q2 := lv_neT c_6 (k := 2) (a := 2) (by decide); have q3 := lv_neT c_8 (k := 3) (a := 3) (by decide); have q4 := lv_neT c_9 (k := 4) (a := 4) (by decide); omega) (by decide) ?_
                refine lv_aload_n hx hb dX7_about_81 rfl (lv_at hl 0 rfl) ?_
                refine gF S hK hP i7 e_M rfl 16 (by decide) k161 f_M_lie dX7_about_82 ?_
                exact retI S hr hlocks hP hS hF dX7_about_85
    · have hF := hF.1 c_3
      refine lv_bipush (v := -3) hx hb dX7_about_19 (by decide) ?_
      exact retI S hr hlocks hP hS hF dX7_about_21
  · have hF := hF.1 c_2
    refine lv_bipush (v := -2) hx hb dX7_about_9 (by decide) ?_
    exact retI S hr hlocks hP hS hF dX7_about_11
def wX7_isSort (a1 : Int32) (Q : Int32 → Mm → Prop) (M : Mm) : Prop := ((a1 < 0 → (Q (0 : Int32) M)) ∧ (¬ a1 < 0 → (((gi M 31) ≤ a1 → (Q (0 : Int32) M)) ∧ (¬ (gi M 31) ≤ a1 → (Q (1 : Int32) M)))))
set_option maxHeartbeats 4000000 in
set_option maxRecDepth 100000 in
theorem ctX7_isSort (l : Launch) (D : va_G) (cI cJ : ClassId) (ad : Nat → Nat) (had : inj54 ad) (a1 : Int32) (Q : Int32 → Mm → Prop) (M : Mm) (hF : wX7_isSort a1 Q M) : Met l yX7_isSort wsX7_isSort ({ frames := 0, cells := 0, slots := 0, locals := 0 } : Room) (PcW D cI cJ ad M [.ref (ad 32), .int a1]) (QzW D cI cJ ad Q) 0 0 (Fr ad) := by
  refine entW (y := yX7_isSort) (ret := some .boolean) (maxL := 2) (plainFor_of_name (by decide)) rfl (Nat.le_of_ble_eq_true rfl) ?_
  intro p e s m args below meth c ls S hK hr hlocks hP hS hl
  have hx := S.1
  have hb := S.2.1
  have hown := S.2.2.2.1
  have hts := S.2.2.2.2
  have i7 : ∀ w ∈ wsX70, w ∈ wsX7_isSort := by decide +kernel
  have k152 := hts (.fieldLink RX7 152 "RopeLineModel" "sorts" "I") (by decide +kernel)
  have hl : lv_has ls 2 [(0, .ref (ad 32)), (1, .int a1)] := hl
  unfold wX7_isSort at hF
  refine lv_iload_n hx hb dX7_isSort_0 rfl (lv_at hl 1 rfl) ?_
  refine lv_if_lt (tgt := 16) hx hb dX7_isSort_1 (by decide) (fun c_1 => ?_) (fun c_1 => ?_)
  · have hF := hF.1 c_1
    refine lv_iconst (v := 0) hx hb dX7_isSort_16 (by decide) ?_
    exact retZ S hr hlocks hP hS rfl hF dX7_isSort_17
  · have hF := hF.2 c_1
    refine lv_iload_n hx hb dX7_isSort_4 rfl (lv_at hl 1 rfl) ?_
    refine lv_aload_n hx hb dX7_isSort_5 rfl (lv_at hl 0 rfl) ?_
    refine gF S hK hP i7 e_M rfl 10 (by decide) k152 f_M_sorts dX7_isSort_6 ?_
    refine lv_icmp_ge (tgt := 16) hx hb dX7_isSort_9 (by decide) (fun c_2 => ?_) (fun c_2 => ?_)
    · have hF := hF.1 c_2
      refine lv_iconst (v := 0) hx hb dX7_isSort_16 (by decide) ?_
      exact retZ S hr hlocks hP hS rfl hF dX7_isSort_17
    · have hF := hF.2 c_2
      refine lv_iconst (v := 1) hx hb dX7_isSort_12 (by decide) ?_
      refine lv_goto (tgt := 17) hx hb dX7_isSort_13 (by decide) ?_
      exact retZ S hr hlocks hP hS rfl hF dX7_isSort_17
def wX7_toldMinutes (a1 : Int32) (a2 : Int32) (a3 : Int32) (Q : Int32 → Mm → Prop) (M : Mm) : Prop := (¬ ((gi M 29) * a2) = 0 ∧ ((0 ≤ (((((((12 : Int32) * a1) + ((gi M 29) * a2)) - (1 : Int32)) / ((gi M 29) * a2)) * a2) + a3) → (Q (((((((12 : Int32) * a1) + ((gi M 29) * a2)) - (1 : Int32)) / ((gi M 29) * a2)) * a2) + a3) M)) ∧ (¬ 0 ≤ (((((((12 : Int32) * a1) + ((gi M 29) * a2)) - (1 : Int32)) / ((gi M 29) * a2)) * a2) + a3) → (Q (0 : Int32) M))))
set_option maxHeartbeats 4000000 in
set_option maxRecDepth 100000 in
theorem ctX7_toldMinutes (l : Launch) (D : va_G) (cI cJ : ClassId) (ad : Nat → Nat) (had : inj54 ad) (a1 : Int32) (a2 : Int32) (a3 : Int32) (Q : Int32 → Mm → Prop) (M : Mm) (hF : wX7_toldMinutes a1 a2 a3 Q M) : Met l yX7_toldMinutes wsX7_toldMinutes ({ frames := 0, cells := 0, slots := 0, locals := 0 } : Room) (PcW D cI cJ ad M [.ref (ad 32), .int a1, .int a2, .int a3]) (QiW D cI cJ ad Q) 0 0 (Fr ad) := by
  refine entW (y := yX7_toldMinutes) (ret := some .int) (maxL := 6) (plainFor_of_name (by decide)) rfl (Nat.le_of_ble_eq_true rfl) ?_
  intro p e s m args below meth c ls S hK hr hlocks hP hS hl
  have hx := S.1
  have hb := S.2.1
  have hown := S.2.2.2.1
  have hts := S.2.2.2.2
  have i7 : ∀ w ∈ wsX70, w ∈ wsX7_toldMinutes := by decide +kernel
  have k146 := hts (.fieldLink RX7 146 "RopeLineModel" "served" "I") (by decide +kernel)
  have hl : lv_has ls 6 [(0, .ref (ad 32)), (1, .int a1), (2, .int a2), (3, .int a3)] := hl
  unfold wX7_toldMinutes at hF
  refine lv_aload_n hx hb dX7_toldMinutes_0 rfl (lv_at hl 0 rfl) ?_
  refine gF S hK hP i7 e_M rfl 8 (by decide) k146 f_M_served dX7_toldMinutes_1 ?_
  refine lv_iload_n hx hb dX7_toldMinutes_4 rfl (lv_at hl 2 rfl) ?_
  refine lv_imul hx hb dX7_toldMinutes_5 ?_
  refine lv_istore (lv' := [(4, .int ((gi M 29) * a2)), (0, .ref (ad 32)), (1, .int a1), (2, .int a2), (3, .int a3)]) hx hb dX7_toldMinutes_6 hl (by decide) rfl (fun ls hl => ?_)
  refine lv_bipush (v := 12) hx hb dX7_toldMinutes_8 (by decide) ?_
  refine lv_iload_n hx hb dX7_toldMinutes_10 rfl (lv_at hl 2 rfl) ?_
  refine lv_imul hx hb dX7_toldMinutes_11 ?_
  refine lv_iload hx hb dX7_toldMinutes_12 (lv_at hl 0 rfl) ?_
  refine lv_iadd hx hb dX7_toldMinutes_14 ?_
  refine lv_iconst (v := 1) hx hb dX7_toldMinutes_15 (by decide) ?_
  refine lv_isub hx hb dX7_toldMinutes_16 ?_
  refine lv_iload hx hb dX7_toldMinutes_17 (lv_at hl 0 rfl) ?_
  obtain ⟨hz_1, hF⟩ := hF
  refine lv_idiv hx hb dX7_toldMinutes_19 hz_1 ?_
  refine lv_iload_n hx hb dX7_toldMinutes_20 rfl (lv_at hl 3 rfl) ?_
  refine lv_imul hx hb dX7_toldMinutes_21 ?_
  refine lv_iload_n hx hb dX7_toldMinutes_22 rfl (lv_at hl 4 rfl) ?_
  refine lv_iadd hx hb dX7_toldMinutes_23 ?_
  refine lv_istore (lv' := [(5, .int (((((((12 : Int32) * a1) + ((gi M 29) * a2)) - (1 : Int32)) / ((gi M 29) * a2)) * a2) + a3)), (4, .int ((gi M 29) * a2)), (0, .ref (ad 32)), (1, .int a1), (2, .int a2), (3, .int a3)]) hx hb dX7_toldMinutes_24 hl (by decide) rfl (fun ls hl => ?_)
  refine lv_iload hx hb dX7_toldMinutes_26 (lv_at hl 0 rfl) ?_
  refine lv_if_ge (tgt := 35) hx hb dX7_toldMinutes_28 (by decide) (fun c_2 => ?_) (fun c_2 => ?_)
  · have hF := hF.1 c_2
    refine lv_iload hx hb dX7_toldMinutes_35 (lv_at hl 0 rfl) ?_
    exact retI S hr hlocks hP hS hF dX7_toldMinutes_37
  · have hF := hF.2 c_2
    refine lv_iconst (v := 0) hx hb dX7_toldMinutes_31 (by decide) ?_
    refine lv_goto (tgt := 37) hx hb dX7_toldMinutes_32 (by decide) ?_
    exact retI S hr hlocks hP hS hF dX7_toldMinutes_37
def bX7_hisBar_6 (a1 : Int32) (a2 : Int32) (a3 : Int32) (a4 : Int32) (Q : Int32 → Mm → Prop) (J_6 : Int32 → Int32 → Mm → Prop) (x5_6 : Int32) (x6_6 : Int32) (m6 : Mm) : Prop := (((5 : Int32) < x6_6 → (Q x5_6 m6)) ∧ (¬ (5 : Int32) < x6_6 → (vp_in a1 3 ∧ ((a3 ≤ 0 → (((((ga m6 37 a1.toNatClampNeg) - a2) * (gi m6 29)) < (((gi m6 30) * (12 : Int32)) * x6_6) → (J_6 x5_6 (x6_6 + 1) m6)) ∧ (¬ (((ga m6 37 a1.toNatClampNeg) - a2) * (gi m6 29)) < (((gi m6 30) * (12 : Int32)) * x6_6) → (J_6 x6_6 (x6_6 + 1) m6)))) ∧ (¬ a3 ≤ 0 → (wX7_toldMinutes x6_6 a3 a4 (fun r_7 M_7 => ((((ga m6 37 a1.toNatClampNeg) - a2) < ((gi m6 30) * r_7) → (J_6 x5_6 (x6_6 + 1) M_7)) ∧ (¬ ((ga m6 37 a1.toNatClampNeg) - a2) < ((gi m6 30) * r_7) → (J_6 x6_6 (x6_6 + 1) M_7)))) m6))))))
def lX7_hisBar_6 (a1 : Int32) (a2 : Int32) (a3 : Int32) (a4 : Int32) (Q : Int32 → Mm → Prop) (x5_6 : Int32) (x6_6 : Int32) (m6 : Mm) : Prop := ∀ I : Int32 → Int32 → Mm → Prop, (∀ J : Int32 → Int32 → Mm → Prop, (∀ (x5_6 : Int32) (x6_6 : Int32) (m : Mm), J x5_6 x6_6 m → I x5_6 x6_6 m) → ∀ (x5_6 : Int32) (x6_6 : Int32) (m : Mm), bX7_hisBar_6 a1 a2 a3 a4 Q J x5_6 x6_6 m → I x5_6 x6_6 m) → I x5_6 x6_6 m6
theorem lX7_hisBar_6_mk (a1 : Int32) (a2 : Int32) (a3 : Int32) (a4 : Int32) (Q : Int32 → Mm → Prop) (x5_6 : Int32) (x6_6 : Int32) (m6 : Mm) (h : bX7_hisBar_6 a1 a2 a3 a4 Q (lX7_hisBar_6 a1 a2 a3 a4 Q) x5_6 x6_6 m6) : lX7_hisBar_6 a1 a2 a3 a4 Q x5_6 x6_6 m6 := fun I hI => hI (lX7_hisBar_6 a1 a2 a3 a4 Q) (fun _ _ _ q => q I hI) _ _ _ h
def wX7_hisBar (a1 : Int32) (a2 : Int32) (a3 : Int32) (a4 : Int32) (Q : Int32 → Mm → Prop) (M : Mm) : Prop := (lX7_hisBar_6 a1 a2 a3 a4 Q (0 : Int32) (1 : Int32) M)
set_option maxHeartbeats 4000000 in
set_option maxRecDepth 100000 in
theorem ctX7_hisBar (l : Launch) (D : va_G) (cI cJ : ClassId) (ad : Nat → Nat) (had : inj54 ad) (a1 : Int32) (a2 : Int32) (a3 : Int32) (a4 : Int32) (Q : Int32 → Mm → Prop) (M : Mm) (hF : wX7_hisBar a1 a2 a3 a4 Q M) : Met l yX7_hisBar wsX7_hisBar ({ frames := 1, cells := 0, slots := 0, locals := 25 } : Room) (PcW D cI cJ ad M [.ref (ad 32), .int a1, .int a2, .int a3, .int a4]) (QiW D cI cJ ad Q) 0 0 (Fr ad) := by
  refine entW (y := yX7_hisBar) (ret := some .int) (maxL := 9) (plainFor_of_name (by decide)) rfl (Nat.le_of_ble_eq_true rfl) ?_
  intro p e s m args below meth c ls S hK hr hlocks hP hS hl
  have hx := S.1
  have hb := S.2.1
  have hown := S.2.2.2.1
  have hts := S.2.2.2.2
  have i7 : ∀ w ∈ wsX70, w ∈ wsX7_hisBar := by decide +kernel
  have k22 := hts (.fieldLink RX7 22 "RopeLineModel" "worths" "[I") (by decide +kernel)
  have k146 := hts (.fieldLink RX7 146 "RopeLineModel" "served" "I") (by decide +kernel)
  have k149 := hts (.fieldLink RX7 149 "RopeLineModel" "cost" "I") (by decide +kernel)
  have hl : lv_has ls 9 [(0, .ref (ad 32)), (1, .int a1), (2, .int a2), (3, .int a3), (4, .int a4)] := hl
  unfold wX7_hisBar at hF
  refine lv_iconst (v := 0) hx hb dX7_hisBar_0 (by decide) ?_
  refine lv_istore (lv' := [(5, .int (0 : Int32)), (0, .ref (ad 32)), (1, .int a1), (2, .int a2), (3, .int a3), (4, .int a4)]) hx hb dX7_hisBar_1 hl (by decide) rfl (fun ls hl => ?_)
  refine lv_iconst (v := 1) hx hb dX7_hisBar_3 (by decide) ?_
  refine lv_istore (lv' := [(6, .int (1 : Int32)), (5, .int (0 : Int32)), (0, .ref (ad 32)), (1, .int a1), (2, .int a2), (3, .int a3), (4, .int a4)]) hx hb dX7_hisBar_4 hl (by decide) rfl (fun ls hl => ?_)
  have key_6 : ∀ (x5_6 : Int32) (x6_6 : Int32) (m6 : Mm), (lX7_hisBar_6 a1 a2 a3 a4 Q x5_6 x6_6 m6) → Wc p l e ({ frames := 1, cells := 0, slots := 0, locals := 25 } : Room) s m args below meth c D cI cJ ad (MQ below (QiW D cI cJ ad Q) args s 0 0 (Fr ad)) 9 6 [(0, .ref (ad 32)), (1, .int a1), (2, .int a2), (3, .int a3), (4, .int a4), (5, .int x5_6), (6, .int x6_6)] m6 := by
    intro x5_6 x6_6 m6 hL
    refine hL (fun x5_6 x6_6 m6 => Wc p l e ({ frames := 1, cells := 0, slots := 0, locals := 25 } : Room) s m args below meth c D cI cJ ad (MQ below (QiW D cI cJ ad Q) args s 0 0 (Fr ad)) 9 6 [(0, .ref (ad 32)), (1, .int a1), (2, .int a2), (3, .int a3), (4, .int a4), (5, .int x5_6), (6, .int x6_6)] m6) ?_
    intro J_6 hJ_6 x5_6 x6_6 m6 hF H locs ls hP hS hl
    unfold bX7_hisBar_6 at hF
    refine lv_iload hx hb dX7_hisBar_6 (lv_at hl 6 rfl) ?_
    refine lv_iconst (v := 5) hx hb dX7_hisBar_8 (by decide) ?_
    refine lv_icmp_gt (tgt := 100) hx hb dX7_hisBar_9 (by decide) (fun c_1 => ?_) (fun c_1 => ?_)
    · have hF := hF.1 c_1
      refine lv_iload hx hb dX7_hisBar_100 (lv_at hl 5 rfl) ?_
      exact retI S hr hlocks hP hS hF dX7_hisBar_102
    · have hF := hF.2 c_1
      refine lv_aload_n hx hb dX7_hisBar_12 rfl (lv_at hl 0 rfl) ?_
      refine gF S hK hP i7 e_M rfl 12 (by decide) k22 f_M_worths dX7_hisBar_13 ?_
      refine lv_iload_n hx hb dX7_hisBar_16 rfl (lv_at hl 1 rfl) ?_
      obtain ⟨hb_2, hF⟩ := hF
      refine ldA S hK hP (k := 37) rfl hb_2 dX7_hisBar_17 ?_
      refine lv_iload_n hx hb dX7_hisBar_18 rfl (lv_at hl 2 rfl) ?_
      refine lv_isub hx hb dX7_hisBar_19 ?_
      refine lv_istore (lv' := [(7, .int ((ga m6 37 a1.toNatClampNeg) - a2)), (0, .ref (ad 32)), (1, .int a1), (2, .int a2), (3, .int a3), (4, .int a4), (5, .int x5_6), (6, .int x6_6)]) hx hb dX7_hisBar_20 hl (by decide) rfl (fun ls hl => ?_)
      refine lv_iload_n hx hb dX7_hisBar_22 rfl (lv_at hl 4 rfl) ?_
      refine lv_if_le (tgt := 53) hx hb dX7_hisBar_23 (by decide) (fun c_3 => ?_) (fun c_3 => ?_)
      · have hF := hF.1 c_3
        refine lv_iload hx hb dX7_hisBar_53 (lv_at hl 0 rfl) ?_
        refine lv_aload_n hx hb dX7_hisBar_55 rfl (lv_at hl 1 rfl) ?_
        refine gF S hK hP i7 e_M rfl 8 (by decide) k146 f_M_served dX7_hisBar_56 ?_
        refine lv_imul hx hb dX7_hisBar_59 ?_
        refine lv_aload_n hx hb dX7_hisBar_60 rfl (lv_at hl 1 rfl) ?_
        refine gF S hK hP i7 e_M rfl 9 (by decide) k149 f_M_cost dX7_hisBar_61 ?_
        refine lv_bipush (v := 12) hx hb dX7_hisBar_64 (by decide) ?_
        refine lv_imul hx hb dX7_hisBar_66 ?_
        refine lv_iload hx hb dX7_hisBar_67 (lv_at hl 7 rfl) ?_
        refine lv_imul hx hb dX7_hisBar_69 ?_
        refine lv_icmp_lt (tgt := 77) hx hb dX7_hisBar_70 (by decide) (fun c_4 => ?_) (fun c_4 => ?_)
        · have hF := hF.1 c_4
          refine lv_iconst (v := 0) hx hb dX7_hisBar_77 (by decide) ?_
          refine lv_istore (lv' := [(8, .int (0 : Int32)), (7, .int ((ga m6 37 a1.toNatClampNeg) - a2)), (0, .ref (ad 32)), (1, .int a1), (2, .int a2), (3, .int a3), (4, .int a4), (5, .int x5_6), (6, .int x6_6)]) hx hb dX7_hisBar_78 hl (by decide) rfl (fun ls hl => ?_)
          refine lv_iload hx hb dX7_hisBar_80 (lv_at hl 0 rfl) ?_
          refine lv_if_eq (tgt := 90) hx hb dX7_hisBar_82 (by decide) (fun _ => ?_) (fun c_5 => absurd (by decide) c_5)
          refine lv_iload hx hb dX7_hisBar_90 (lv_at hl 7 rfl) ?_
          refine lv_istore (lv' := [(5, .int x5_6), (8, .int (0 : Int32)), (7, .int ((ga m6 37 a1.toNatClampNeg) - a2)), (0, .ref (ad 32)), (1, .int a1), (2, .int a2), (3, .int a3), (4, .int a4), (6, .int x6_6)]) hx hb dX7_hisBar_92 hl (by decide) rfl (fun ls hl => ?_)
          refine lv_iinc (v := (x6_6 + 1)) (lv' := [(6, .int (x6_6 + 1)), (5, .int x5_6), (8, .int (0 : Int32)), (7, .int ((ga m6 37 a1.toNatClampNeg) - a2)), (0, .ref (ad 32)), (1, .int a1), (2, .int a2), (3, .int a3), (4, .int a4)]) hx hb dX7_hisBar_94 hl (k := 8) rfl rfl (by decide) rfl (fun ls hl => ?_)
          refine lv_goto (tgt := 6) hx hb dX7_hisBar_97 (by decide) ?_
          exact hJ_6 _ _ _ hF _ _ _ hP hS (lv_sub hl [4, 5, 6, 7, 8, 1, 0] rfl)
        · have hF := hF.2 c_4
          refine lv_iconst (v := 1) hx hb dX7_hisBar_73 (by decide) ?_
          refine lv_goto (tgt := 78) hx hb dX7_hisBar_74 (by decide) ?_
          refine lv_istore (lv' := [(8, .int (1 : Int32)), (7, .int ((ga m6 37 a1.toNatClampNeg) - a2)), (0, .ref (ad 32)), (1, .int a1), (2, .int a2), (3, .int a3), (4, .int a4), (5, .int x5_6), (6, .int x6_6)]) hx hb dX7_hisBar_78 hl (by decide) rfl (fun ls hl => ?_)
          refine lv_iload hx hb dX7_hisBar_80 (lv_at hl 0 rfl) ?_
          refine lv_if_eq (tgt := 90) hx hb dX7_hisBar_82 (by decide) (fun c_6 => absurd c_6 (by decide)) (fun _ => ?_)
          refine lv_iload hx hb dX7_hisBar_85 (lv_at hl 8 rfl) ?_
          refine lv_goto (tgt := 92) hx hb dX7_hisBar_87 (by decide) ?_
          refine lv_istore (lv' := [(5, .int x6_6), (8, .int (1 : Int32)), (7, .int ((ga m6 37 a1.toNatClampNeg) - a2)), (0, .ref (ad 32)), (1, .int a1), (2, .int a2), (3, .int a3), (4, .int a4), (6, .int x6_6)]) hx hb dX7_hisBar_92 hl (by decide) rfl (fun ls hl => ?_)
          refine lv_iinc (v := (x6_6 + 1)) (lv' := [(6, .int (x6_6 + 1)), (5, .int x6_6), (8, .int (1 : Int32)), (7, .int ((ga m6 37 a1.toNatClampNeg) - a2)), (0, .ref (ad 32)), (1, .int a1), (2, .int a2), (3, .int a3), (4, .int a4)]) hx hb dX7_hisBar_94 hl (k := 8) rfl rfl (by decide) rfl (fun ls hl => ?_)
          refine lv_goto (tgt := 6) hx hb dX7_hisBar_97 (by decide) ?_
          exact hJ_6 _ _ _ hF _ _ _ hP hS (lv_sub hl [4, 5, 6, 7, 8, 1, 0] rfl)
      · have hF := hF.2 c_3
        refine lv_iload hx hb dX7_hisBar_26 (lv_at hl 0 rfl) ?_
        refine lv_aload_n hx hb dX7_hisBar_28 rfl (lv_at hl 1 rfl) ?_
        refine gF S hK hP i7 e_M rfl 9 (by decide) k149 f_M_cost dX7_hisBar_29 ?_
        refine lv_aload_n hx hb dX7_hisBar_32 rfl (lv_at hl 1 rfl) ?_
        refine lv_iload hx hb dX7_hisBar_33 (lv_at hl 7 rfl) ?_
        refine lv_iload_n hx hb dX7_hisBar_35 rfl (lv_at hl 4 rfl) ?_
        refine lv_iload hx hb dX7_hisBar_36 (lv_at hl 5 rfl) ?_
        refine goI (rV (rest := [.int (gi m6 30), .int ((ga m6 37 a1.toNatClampNeg) - a2)]) S hK hP (ctX7_toldMinutes l D cI cJ ad had x6_6 a3 a4 _ _ hF) (cwV 3 hts gX7_hisBar_X7_toldMinutes rfl rfl rfl hdV_X7_toldMinutes ⟨Nat.le_of_ble_eq_true rfl, Nat.le_of_ble_eq_true rfl⟩) e_M rfl rfl hl.1 rfl (Nat.le_of_ble_eq_true rfl) dX7_hisBar_38 ⟨Nat.zero_le _, Nat.zero_le _⟩) hS (fun _ h => h) (fun r_7 M_7 H locs hP hS hF => ?_)
        refine lv_imul hx hb dX7_hisBar_41 ?_
        refine lv_icmp_lt (tgt := 49) hx hb dX7_hisBar_42 (by decide) (fun c_8 => ?_) (fun c_8 => ?_)
        · have hF := hF.1 c_8
          refine lv_iconst (v := 0) hx hb dX7_hisBar_49 (by decide) ?_
          refine lv_goto (tgt := 78) hx hb dX7_hisBar_50 (by decide) ?_
          refine lv_istore (lv' := [(8, .int (0 : Int32)), (7, .int ((ga m6 37 a1.toNatClampNeg) - a2)), (0, .ref (ad 32)), (1, .int a1), (2, .int a2), (3, .int a3), (4, .int a4), (5, .int x5_6), (6, .int x6_6)]) hx hb dX7_hisBar_78 hl (by decide) rfl (fun ls hl => ?_)
          refine lv_iload hx hb dX7_hisBar_80 (lv_at hl 0 rfl) ?_
          refine lv_if_eq (tgt := 90) hx hb dX7_hisBar_82 (by decide) (fun _ => ?_) (fun c_9 => absurd (by decide) c_9)
          refine lv_iload hx hb dX7_hisBar_90 (lv_at hl 7 rfl) ?_
          refine lv_istore (lv' := [(5, .int x5_6), (8, .int (0 : Int32)), (7, .int ((ga m6 37 a1.toNatClampNeg) - a2)), (0, .ref (ad 32)), (1, .int a1), (2, .int a2), (3, .int a3), (4, .int a4), (6, .int x6_6)]) hx hb dX7_hisBar_92 hl (by decide) rfl (fun ls hl => ?_)
          refine lv_iinc (v := (x6_6 + 1)) (lv' := [(6, .int (x6_6 + 1)), (5, .int x5_6), (8, .int (0 : Int32)), (7, .int ((ga m6 37 a1.toNatClampNeg) - a2)), (0, .ref (ad 32)), (1, .int a1), (2, .int a2), (3, .int a3), (4, .int a4)]) hx hb dX7_hisBar_94 hl (k := 8) rfl rfl (by decide) rfl (fun ls hl => ?_)
          refine lv_goto (tgt := 6) hx hb dX7_hisBar_97 (by decide) ?_
          exact hJ_6 _ _ _ hF _ _ _ hP hS (lv_sub hl [4, 5, 6, 7, 8, 1, 0] rfl)
        · have hF := hF.2 c_8
          refine lv_iconst (v := 1) hx hb dX7_hisBar_45 (by decide) ?_
          refine lv_goto (tgt := 78) hx hb dX7_hisBar_46 (by decide) ?_
          refine lv_istore (lv' := [(8, .int (1 : Int32)), (7, .int ((ga m6 37 a1.toNatClampNeg) - a2)), (0, .ref (ad 32)), (1, .int a1), (2, .int a2), (3, .int a3), (4, .int a4), (5, .int x5_6), (6, .int x6_6)]) hx hb dX7_hisBar_78 hl (by decide) rfl (fun ls hl => ?_)
          refine lv_iload hx hb dX7_hisBar_80 (lv_at hl 0 rfl) ?_
          refine lv_if_eq (tgt := 90) hx hb dX7_hisBar_82 (by decide) (fun c_10 => absurd c_10 (by decide)) (fun _ => ?_)
          refine lv_iload hx hb dX7_hisBar_85 (lv_at hl 8 rfl) ?_
          refine lv_goto (tgt := 92) hx hb dX7_hisBar_87 (by decide) ?_
          refine lv_istore (lv' := [(5, .int x6_6), (8, .int (1 : Int32)), (7, .int ((ga m6 37 a1.toNatClampNeg) - a2)), (0, .ref (ad 32)), (1, .int a1), (2, .int a2), (3, .int a3), (4, .int a4), (6, .int x6_6)]) hx hb dX7_hisBar_92 hl (by decide) rfl (fun ls hl => ?_)
          refine lv_iinc (v := (x6_6 + 1)) (lv' := [(6, .int (x6_6 + 1)), (5, .int x6_6), (8, .int (1 : Int32)), (7, .int ((ga m6 37 a1.toNatClampNeg) - a2)), (0, .ref (ad 32)), (1, .int a1), (2, .int a2), (3, .int a3), (4, .int a4)]) hx hb dX7_hisBar_94 hl (k := 8) rfl rfl (by decide) rfl (fun ls hl => ?_)
          refine lv_goto (tgt := 6) hx hb dX7_hisBar_97 (by decide) ?_
          exact hJ_6 _ _ _ hF _ _ _ hP hS (lv_sub hl [4, 5, 6, 7, 8, 1, 0] rfl)
  exact key_6 _ _ _ hF _ _ _ hP hS (lv_sub hl [2, 3, 4, 5, 6, 1, 0] rfl)
def wX7_ofSort (a1 : Int32) (a2 : Int32) (Q : Int32 → Mm → Prop) (M : Mm) : Prop := (wX7_isSort a1 (fun r_1 M_1 => ((r_1 = 0 → (Q (-1 : Int32) M_1)) ∧ (¬ r_1 = 0 → ((a2 = 0 → (vp_in a1 3 ∧ (Q (ga M_1 36 a1.toNatClampNeg) M_1))) ∧ (¬ a2 = 0 → ((a2 = 1 → (vp_in a1 3 ∧ (Q (ga M_1 37 a1.toNatClampNeg) M_1))) ∧ (¬ a2 = 1 → ((a2 = 2 → (vp_in a1 3 ∧ (Q (ga M_1 38 a1.toNatClampNeg) M_1))) ∧ (¬ a2 = 2 → ((a2 = 3 → (wX7_hisBar a1 (gi M_1 32) (gi M_1 33) (gi M_1 34) (fun r_10 M_10 => (Q r_10 M_10)) M_1)) ∧ (¬ a2 = 3 → (Q (-2 : Int32) M_1)))))))))))) M)
set_option maxHeartbeats 4000000 in
set_option maxRecDepth 100000 in
theorem ctX7_ofSort (l : Launch) (D : va_G) (cI cJ : ClassId) (ad : Nat → Nat) (had : inj54 ad) (a1 : Int32) (a2 : Int32) (Q : Int32 → Mm → Prop) (M : Mm) (hF : wX7_ofSort a1 a2 Q M) : Met l yX7_ofSort wsX7_ofSort ({ frames := 2, cells := 0, slots := 0, locals := 53 } : Room) (PcW D cI cJ ad M [.ref (ad 32), .int a1, .int a2]) (QiW D cI cJ ad Q) 0 0 (Fr ad) := by
  refine entW (y := yX7_ofSort) (ret := some .int) (maxL := 3) (plainFor_of_name (by decide)) rfl (Nat.le_of_ble_eq_true rfl) ?_
  intro p e s m args below meth c ls S hK hr hlocks hP hS hl
  have hx := S.1
  have hb := S.2.1
  have hown := S.2.2.2.1
  have hts := S.2.2.2.2
  have i7 : ∀ w ∈ wsX70, w ∈ wsX7_ofSort := by decide +kernel
  have k19 := hts (.fieldLink RX7 19 "RopeLineModel" "twelfths" "[I") (by decide +kernel)
  have k22 := hts (.fieldLink RX7 22 "RopeLineModel" "worths" "[I") (by decide +kernel)
  have k25 := hts (.fieldLink RX7 25 "RopeLineModel" "bars" "[I") (by decide +kernel)
  have k155 := hts (.fieldLink RX7 155 "RopeLineModel" "toll" "I") (by decide +kernel)
  have k158 := hts (.fieldLink RX7 158 "RopeLineModel" "step" "I") (by decide +kernel)
  have k161 := hts (.fieldLink RX7 161 "RopeLineModel" "lie" "I") (by decide +kernel)
  have hl : lv_has ls 3 [(0, .ref (ad 32)), (1, .int a1), (2, .int a2)] := hl
  unfold wX7_ofSort at hF
  refine lv_aload_n hx hb dX7_ofSort_0 rfl (lv_at hl 0 rfl) ?_
  refine lv_iload_n hx hb dX7_ofSort_1 rfl (lv_at hl 1 rfl) ?_
  refine goZ (rV (rest := []) S hK hP (ctX7_isSort l D cI cJ ad had a1 _ _ hF) (cwV 1 hts gX7_ofSort_X7_isSort rfl rfl rfl hdV_X7_isSort ⟨Nat.le_of_ble_eq_true rfl, Nat.le_of_ble_eq_true rfl⟩) e_M rfl rfl hl.1 rfl (Nat.le_of_ble_eq_true rfl) dX7_ofSort_2 ⟨Nat.zero_le _, Nat.zero_le _⟩) hS (fun _ h => h) (fun r_1 M_1 H locs hP hS hz_r_1 hF => ?_)
  refine lv_if_ne (tgt := 10) hx hb dX7_ofSort_5 (by decide) (fun c_2 => ?_) (fun c_2 => ?_)
  · have hF := hF.2 c_2
    refine lv_iload_n hx hb dX7_ofSort_10 rfl (lv_at hl 2 rfl) ?_
    by_cases c_3 : a2 = 0
    · have hF := hF.1 c_3
      refine lv_tableIn (off := 29) (tgt := 40) hx hb dX7_ofSort_11 (by rw [c_3]; decide) (by rw [c_3]; decide) (by rw [c_3]; rfl) (by decide) ?_
      refine lv_aload_n hx hb dX7_ofSort_40 rfl (lv_at hl 0 rfl) ?_
      refine gF S hK hP i7 e_M rfl 11 (by decide) k19 f_M_twelfths dX7_ofSort_41 ?_
      refine lv_iload_n hx hb dX7_ofSort_44 rfl (lv_at hl 1 rfl) ?_
      obtain ⟨hb_4, hF⟩ := hF
      refine ldA S hK hP (k := 36) rfl hb_4 dX7_ofSort_45 ?_
      exact retI S hr hlocks hP hS hF dX7_ofSort_46
    · have hF := hF.2 c_3
      by_cases c_5 : a2 = 1
      · have hF := hF.1 c_5
        refine lv_tableIn (off := 36) (tgt := 47) hx hb dX7_ofSort_11 (by rw [c_5]; decide) (by rw [c_5]; decide) (by rw [c_5]; rfl) (by decide) ?_
        refine lv_aload_n hx hb dX7_ofSort_47 rfl (lv_at hl 0 rfl) ?_
        refine gF S hK hP i7 e_M rfl 12 (by decide) k22 f_M_worths dX7_ofSort_48 ?_
        refine lv_iload_n hx hb dX7_ofSort_51 rfl (lv_at hl 1 rfl) ?_
        obtain ⟨hb_6, hF⟩ := hF
        refine ldA S hK hP (k := 37) rfl hb_6 dX7_ofSort_52 ?_
        exact retI S hr hlocks hP hS hF dX7_ofSort_53
      · have hF := hF.2 c_5
        by_cases c_7 : a2 = 2
        · have hF := hF.1 c_7
          refine lv_tableIn (off := 43) (tgt := 54) hx hb dX7_ofSort_11 (by rw [c_7]; decide) (by rw [c_7]; decide) (by rw [c_7]; rfl) (by decide) ?_
          refine lv_aload_n hx hb dX7_ofSort_54 rfl (lv_at hl 0 rfl) ?_
          refine gF S hK hP i7 e_M rfl 13 (by decide) k25 f_M_bars dX7_ofSort_55 ?_
          refine lv_iload_n hx hb dX7_ofSort_58 rfl (lv_at hl 1 rfl) ?_
          obtain ⟨hb_8, hF⟩ := hF
          refine ldA S hK hP (k := 38) rfl hb_8 dX7_ofSort_59 ?_
          exact retI S hr hlocks hP hS hF dX7_ofSort_60
        · have hF := hF.2 c_7
          by_cases c_9 : a2 = 3
          · have hF := hF.1 c_9
            refine lv_tableIn (off := 50) (tgt := 61) hx hb dX7_ofSort_11 (by rw [c_9]; decide) (by rw [c_9]; decide) (by rw [c_9]; rfl) (by decide) ?_
            refine lv_aload_n hx hb dX7_ofSort_61 rfl (lv_at hl 0 rfl) ?_
            refine lv_iload_n hx hb dX7_ofSort_62 rfl (lv_at hl 1 rfl) ?_
            refine lv_aload_n hx hb dX7_ofSort_63 rfl (lv_at hl 0 rfl) ?_
            refine gF S hK hP i7 e_M rfl 14 (by decide) k155 f_M_toll dX7_ofSort_64 ?_
            refine lv_aload_n hx hb dX7_ofSort_67 rfl (lv_at hl 0 rfl) ?_
            refine gF S hK hP i7 e_M rfl 15 (by decide) k158 f_M_step dX7_ofSort_68 ?_
            refine lv_aload_n hx hb dX7_ofSort_71 rfl (lv_at hl 0 rfl) ?_
            refine gF S hK hP i7 e_M rfl 16 (by decide) k161 f_M_lie dX7_ofSort_72 ?_
            refine goI (rV (rest := []) S hK hP (ctX7_hisBar l D cI cJ ad had a1 (gi M_1 32) (gi M_1 33) (gi M_1 34) _ _ hF) (cwV 4 hts gX7_ofSort_X7_hisBar rfl rfl rfl hdV_X7_hisBar ⟨Nat.le_of_ble_eq_true rfl, Nat.le_of_ble_eq_true rfl⟩) e_M rfl rfl hl.1 rfl (Nat.le_of_ble_eq_true rfl) dX7_ofSort_75 ⟨Nat.zero_le _, Nat.zero_le _⟩) hS (fun _ h => h) (fun r_10 M_10 H locs hP hS hF => ?_)
            exact retI S hr hlocks hP hS hF dX7_ofSort_78
          · have hF := hF.2 c_9
            refine lv_tableOut (tgt := 79) hx hb dX7_ofSort_11 (by have q0 := lv_neT c_3 (k := 0) (a := 0) (by decide); have q1 := lv_neT c_5 (k := 1) (a := 1) (by decide); have q2 := lv_neT c_7 (k := 2) (a := 2) (by decide); have q3 := lv_neT c_9 (k := 3) (a := 3) (by decide); omega) (by decide) ?_
            refine lv_bipush (v := -2) hx hb dX7_ofSort_79 (by decide) ?_
            exact retI S hr hlocks hP hS hF dX7_ofSort_81
  · have hF := hF.1 c_2
    refine lv_iconst (v := -1) hx hb dX7_ofSort_8 (by decide) ?_
    exact retI S hr hlocks hP hS hF dX7_ofSort_9
def wX7_bar (a1 : Int32) (a2 : Int32) (Q : Int32 → Mm → Prop) (M : Mm) : Prop := (wX7_isSort a1 (fun r_1 M_1 => ((r_1 = 0 → (Q (-1 : Int32) M_1)) ∧ (¬ r_1 = 0 → (wX7_within a2 (0 : Int32) (5 : Int32) (fun r_3 M_3 => ((r_3 = 0 → (Q (-2 : Int32) M_3)) ∧ (¬ r_3 = 0 → (vp_in a1 3 ∧ (vp_in a1 3 ∧ (∀ M_6 : Mm, M_6 = (sa M_3 38 (upd (ga M_3 38) a1.toNatClampNeg a2)) → (Q (ga M_3 38 a1.toNatClampNeg) M_6))))))) M_1)))) M)
set_option maxHeartbeats 4000000 in
set_option maxRecDepth 100000 in
theorem ctX7_bar (l : Launch) (D : va_G) (cI cJ : ClassId) (ad : Nat → Nat) (had : inj54 ad) (a1 : Int32) (a2 : Int32) (Q : Int32 → Mm → Prop) (M : Mm) (hF : wX7_bar a1 a2 Q M) : Met l yX7_bar wsX7_bar ({ frames := 1, cells := 0, slots := 0, locals := 22 } : Room) (PcW D cI cJ ad M [.ref (ad 32), .int a1, .int a2]) (QiW D cI cJ ad Q) 0 0 (Fr ad) := by
  refine entW (y := yX7_bar) (ret := some .int) (maxL := 4) (plainFor_of_name (by decide)) rfl (Nat.le_of_ble_eq_true rfl) ?_
  intro p e s m args below meth c ls S hK hr hlocks hP hS hl
  have hx := S.1
  have hb := S.2.1
  have hown := S.2.2.2.1
  have hts := S.2.2.2.2
  have i7 : ∀ w ∈ wsX70, w ∈ wsX7_bar := by decide +kernel
  have k25 := hts (.fieldLink RX7 25 "RopeLineModel" "bars" "[I") (by decide +kernel)
  have hl : lv_has ls 4 [(0, .ref (ad 32)), (1, .int a1), (2, .int a2)] := hl
  unfold wX7_bar at hF
  refine lv_aload_n hx hb dX7_bar_0 rfl (lv_at hl 0 rfl) ?_
  refine lv_iload_n hx hb dX7_bar_1 rfl (lv_at hl 1 rfl) ?_
  refine goZ (rV (rest := []) S hK hP (ctX7_isSort l D cI cJ ad had a1 _ _ hF) (cwV 1 hts gX7_bar_X7_isSort rfl rfl rfl hdV_X7_isSort ⟨Nat.le_of_ble_eq_true rfl, Nat.le_of_ble_eq_true rfl⟩) e_M rfl rfl hl.1 rfl (Nat.le_of_ble_eq_true rfl) dX7_bar_2 ⟨Nat.zero_le _, Nat.zero_le _⟩) hS (fun _ h => h) (fun r_1 M_1 H locs hP hS hz_r_1 hF => ?_)
  refine lv_if_ne (tgt := 10) hx hb dX7_bar_5 (by decide) (fun c_2 => ?_) (fun c_2 => ?_)
  · have hF := hF.2 c_2
    refine lv_iload_n hx hb dX7_bar_10 rfl (lv_at hl 2 rfl) ?_
    refine lv_iconst (v := 0) hx hb dX7_bar_11 (by decide) ?_
    refine lv_iconst (v := 5) hx hb dX7_bar_12 (by decide) ?_
    refine goZ (rS (rest := []) S hK hP (ctX7_within l D cI cJ ad had a2 (0 : Int32) (5 : Int32) _ _ hF) (va_cwS 3 hts gX7_bar_X7_within rfl rfl rfl hdS_X7_within ⟨Nat.le_of_ble_eq_true rfl, Nat.le_of_ble_eq_true rfl⟩) rfl hl.1 rfl (Nat.le_of_ble_eq_true rfl) dX7_bar_13 ⟨Nat.zero_le _, Nat.zero_le _⟩) hS (fun _ h => h) (fun r_3 M_3 H locs hP hS hz_r_3 hF => ?_)
    refine lv_if_ne (tgt := 22) hx hb dX7_bar_16 (by decide) (fun c_4 => ?_) (fun c_4 => ?_)
    · have hF := hF.2 c_4
      refine lv_aload_n hx hb dX7_bar_22 rfl (lv_at hl 0 rfl) ?_
      refine gF S hK hP i7 e_M rfl 13 (by decide) k25 f_M_bars dX7_bar_23 ?_
      refine lv_iload_n hx hb dX7_bar_26 rfl (lv_at hl 1 rfl) ?_
      obtain ⟨hb_5, hF⟩ := hF
      refine ldA S hK hP (k := 38) rfl hb_5 dX7_bar_27 ?_
      refine lv_istore_n (lv' := [(3, .int (ga M_3 38 a1.toNatClampNeg)), (0, .ref (ad 32)), (1, .int a1), (2, .int a2)]) hx hb dX7_bar_28 rfl hl (by decide) rfl (fun ls hl => ?_)
      refine lv_aload_n hx hb dX7_bar_29 rfl (lv_at hl 1 rfl) ?_
      refine gF S hK hP i7 e_M rfl 13 (by decide) k25 f_M_bars dX7_bar_30 ?_
      refine lv_iload_n hx hb dX7_bar_33 rfl (lv_at hl 2 rfl) ?_
      refine lv_iload_n hx hb dX7_bar_34 rfl (lv_at hl 3 rfl) ?_
      obtain ⟨hb_7, hF⟩ := hF
      refine stA S hK had hP hS (k := 38) rfl hb_7 dX7_bar_35 (fun M_6 H locs eM_6 hP hS => ?_)
      have hF := hF M_6 eM_6
      refine lv_iload_n hx hb dX7_bar_36 rfl (lv_at hl 0 rfl) ?_
      exact retI S hr hlocks hP hS hF dX7_bar_37
    · have hF := hF.1 c_4
      refine lv_bipush (v := -2) hx hb dX7_bar_19 (by decide) ?_
      exact retI S hr hlocks hP hS hF dX7_bar_21
  · have hF := hF.1 c_2
    refine lv_iconst (v := -1) hx hb dX7_bar_8 (by decide) ?_
    exact retI S hr hlocks hP hS hF dX7_bar_9
def wX7_toll (a1 : Int32) (Q : Int32 → Mm → Prop) (M : Mm) : Prop := (wX7_within a1 (0 : Int32) (999 : Int32) (fun r_1 M_1 => ((r_1 = 0 → (Q (-2 : Int32) M_1)) ∧ (¬ r_1 = 0 → (((gi M_1 28) = 0 → (Q (-3 : Int32) M_1)) ∧ (¬ (gi M_1 28) = 0 → (∀ M_4 : Mm, M_4 = (si M_1 32 a1) → (Q (gi M_1 32) M_4))))))) M)
set_option maxHeartbeats 4000000 in
set_option maxRecDepth 100000 in
theorem ctX7_toll (l : Launch) (D : va_G) (cI cJ : ClassId) (ad : Nat → Nat) (had : inj54 ad) (a1 : Int32) (Q : Int32 → Mm → Prop) (M : Mm) (hF : wX7_toll a1 Q M) : Met l yX7_toll wsX7_toll ({ frames := 1, cells := 0, slots := 0, locals := 22 } : Room) (PcW D cI cJ ad M [.ref (ad 32), .int a1]) (QiW D cI cJ ad Q) 0 0 (Fr ad) := by
  refine entW (y := yX7_toll) (ret := some .int) (maxL := 3) (plainFor_of_name (by decide)) rfl (Nat.le_of_ble_eq_true rfl) ?_
  intro p e s m args below meth c ls S hK hr hlocks hP hS hl
  have hx := S.1
  have hb := S.2.1
  have hown := S.2.2.2.1
  have hts := S.2.2.2.2
  have i7 : ∀ w ∈ wsX70, w ∈ wsX7_toll := by decide +kernel
  have k142 := hts (.fieldLink RX7 142 "RopeLineModel" "isPlace" "Z") (by decide +kernel)
  have k155 := hts (.fieldLink RX7 155 "RopeLineModel" "toll" "I") (by decide +kernel)
  have hl : lv_has ls 3 [(0, .ref (ad 32)), (1, .int a1)] := hl
  unfold wX7_toll at hF
  refine lv_iload_n hx hb dX7_toll_0 rfl (lv_at hl 1 rfl) ?_
  refine lv_iconst (v := 0) hx hb dX7_toll_1 (by decide) ?_
  refine lv_sipush (v := 999) hx hb dX7_toll_2 (by decide) ?_
  refine goZ (rS (rest := []) S hK hP (ctX7_within l D cI cJ ad had a1 (0 : Int32) (999 : Int32) _ _ hF) (va_cwS 3 hts gX7_toll_X7_within rfl rfl rfl hdS_X7_within ⟨Nat.le_of_ble_eq_true rfl, Nat.le_of_ble_eq_true rfl⟩) rfl hl.1 rfl (Nat.le_of_ble_eq_true rfl) dX7_toll_5 ⟨Nat.zero_le _, Nat.zero_le _⟩) hS (fun _ h => h) (fun r_1 M_1 H locs hP hS hz_r_1 hF => ?_)
  refine lv_if_ne (tgt := 14) hx hb dX7_toll_8 (by decide) (fun c_2 => ?_) (fun c_2 => ?_)
  · have hF := hF.2 c_2
    refine lv_aload_n hx hb dX7_toll_14 rfl (lv_at hl 0 rfl) ?_
    refine gF S hK hP i7 e_M rfl 7 (by decide) k142 f_M_isPlace dX7_toll_15 ?_
    refine lv_if_ne (tgt := 24) hx hb dX7_toll_18 (by decide) (fun c_3 => ?_) (fun c_3 => ?_)
    · have hF := hF.2 c_3
      refine lv_aload_n hx hb dX7_toll_24 rfl (lv_at hl 0 rfl) ?_
      refine gF S hK hP i7 e_M rfl 14 (by decide) k155 f_M_toll dX7_toll_25 ?_
      refine lv_istore_n (lv' := [(2, .int (gi M_1 32)), (0, .ref (ad 32)), (1, .int a1)]) hx hb dX7_toll_28 rfl hl (by decide) rfl (fun ls hl => ?_)
      refine lv_aload_n hx hb dX7_toll_29 rfl (lv_at hl 1 rfl) ?_
      refine lv_iload_n hx hb dX7_toll_30 rfl (lv_at hl 2 rfl) ?_
      refine pF S hK had hP hS i7 tyX7_ok nmX7 e_M rfl 14 (by decide) k155 rfl rfl rfl (Nat.lt_of_lt_of_eq (by decide) len_M.symm) s_M_toll dX7_toll_31 (fun M_4 H locs eM_4 hP hS => ?_)
      have hF := hF M_4 eM_4
      refine lv_iload_n hx hb dX7_toll_34 rfl (lv_at hl 0 rfl) ?_
      exact retI S hr hlocks hP hS hF dX7_toll_35
    · have hF := hF.1 c_3
      refine lv_bipush (v := -3) hx hb dX7_toll_21 (by decide) ?_
      exact retI S hr hlocks hP hS hF dX7_toll_23
  · have hF := hF.1 c_2
    refine lv_bipush (v := -2) hx hb dX7_toll_11 (by decide) ?_
    exact retI S hr hlocks hP hS hF dX7_toll_13
def wX7_board (a1 : Int32) (a2 : Int32) (Q : Int32 → Mm → Prop) (M : Mm) : Prop := (wX7_within a1 (0 : Int32) (20 : Int32) (fun r_1 M_1 => ((r_1 = 0 → (Q (-2 : Int32) M_1)) ∧ (¬ r_1 = 0 → (wX7_within a2 (-20 : Int32) (20 : Int32) (fun r_3 M_3 => ((r_3 = 0 → (Q (-2 : Int32) M_3)) ∧ (¬ r_3 = 0 → (((gi M_3 28) = 0 → (Q (-3 : Int32) M_3)) ∧ (¬ (gi M_3 28) = 0 → ((a1 = 0 → (((gi M_3 33) = a1 → (((gi M_3 34) = (0 : Int32) → (∀ M_21 : Mm, M_21 = (si M_3 33 a1) → (∀ M_22 : Mm, M_22 = (si M_21 34 (0 : Int32)) → (Q (0 : Int32) M_22)))) ∧ (¬ (gi M_3 34) = (0 : Int32) → (∀ M_19 : Mm, M_19 = (si M_3 33 a1) → (∀ M_20 : Mm, M_20 = (si M_19 34 (0 : Int32)) → (Q (1 : Int32) M_20)))))) ∧ (¬ (gi M_3 33) = a1 → (∀ M_16 : Mm, M_16 = (si M_3 33 a1) → (∀ M_17 : Mm, M_17 = (si M_16 34 (0 : Int32)) → (Q (1 : Int32) M_17)))))) ∧ (¬ a1 = 0 → (((gi M_3 33) = a1 → (((gi M_3 34) = a2 → (∀ M_13 : Mm, M_13 = (si M_3 33 a1) → (∀ M_14 : Mm, M_14 = (si M_13 34 a2) → (Q (0 : Int32) M_14)))) ∧ (¬ (gi M_3 34) = a2 → (∀ M_11 : Mm, M_11 = (si M_3 33 a1) → (∀ M_12 : Mm, M_12 = (si M_11 34 a2) → (Q (1 : Int32) M_12)))))) ∧ (¬ (gi M_3 33) = a1 → (∀ M_8 : Mm, M_8 = (si M_3 33 a1) → (∀ M_9 : Mm, M_9 = (si M_8 34 a2) → (Q (1 : Int32) M_9)))))))))))) M_1)))) M)
set_option maxHeartbeats 4000000 in
set_option maxRecDepth 100000 in
theorem ctX7_board (l : Launch) (D : va_G) (cI cJ : ClassId) (ad : Nat → Nat) (had : inj54 ad) (a1 : Int32) (a2 : Int32) (Q : Int32 → Mm → Prop) (M : Mm) (hF : wX7_board a1 a2 Q M) : Met l yX7_board wsX7_board ({ frames := 1, cells := 0, slots := 0, locals := 22 } : Room) (PcW D cI cJ ad M [.ref (ad 32), .int a1, .int a2]) (QiW D cI cJ ad Q) 0 0 (Fr ad) := by
  refine entW (y := yX7_board) (ret := some .int) (maxL := 5) (plainFor_of_name (by decide)) rfl (Nat.le_of_ble_eq_true rfl) ?_
  intro p e s m args below meth c ls S hK hr hlocks hP hS hl
  have hx := S.1
  have hb := S.2.1
  have hown := S.2.2.2.1
  have hts := S.2.2.2.2
  have i7 : ∀ w ∈ wsX70, w ∈ wsX7_board := by decide +kernel
  have k142 := hts (.fieldLink RX7 142 "RopeLineModel" "isPlace" "Z") (by decide +kernel)
  have k158 := hts (.fieldLink RX7 158 "RopeLineModel" "step" "I") (by decide +kernel)
  have k161 := hts (.fieldLink RX7 161 "RopeLineModel" "lie" "I") (by decide +kernel)
  have hl : lv_has ls 5 [(0, .ref (ad 32)), (1, .int a1), (2, .int a2)] := hl
  unfold wX7_board at hF
  refine lv_iload_n hx hb dX7_board_0 rfl (lv_at hl 1 rfl) ?_
  refine lv_iconst (v := 0) hx hb dX7_board_1 (by decide) ?_
  refine lv_bipush (v := 20) hx hb dX7_board_2 (by decide) ?_
  refine goZ (rS (rest := []) S hK hP (ctX7_within l D cI cJ ad had a1 (0 : Int32) (20 : Int32) _ _ hF) (va_cwS 3 hts gX7_board_X7_within rfl rfl rfl hdS_X7_within ⟨Nat.le_of_ble_eq_true rfl, Nat.le_of_ble_eq_true rfl⟩) rfl hl.1 rfl (Nat.le_of_ble_eq_true rfl) dX7_board_4 ⟨Nat.zero_le _, Nat.zero_le _⟩) hS (fun _ h => h) (fun r_1 M_1 H locs hP hS hz_r_1 hF => ?_)
  refine lv_if_eq (tgt := 21) hx hb dX7_board_7 (by decide) (fun c_2 => ?_) (fun c_2 => ?_)
  · have hF := hF.1 c_2
    refine lv_bipush (v := -2) hx hb dX7_board_21 (by decide) ?_
    exact retI S hr hlocks hP hS hF dX7_board_23
  · have hF := hF.2 c_2
    refine lv_iload_n hx hb dX7_board_10 rfl (lv_at hl 2 rfl) ?_
    refine lv_bipush (v := -20) hx hb dX7_board_11 (by decide) ?_
    refine lv_bipush (v := 20) hx hb dX7_board_13 (by decide) ?_
    refine goZ (rS (rest := []) S hK hP (ctX7_within l D cI cJ ad had a2 (-20 : Int32) (20 : Int32) _ _ hF) (va_cwS 3 hts gX7_board_X7_within rfl rfl rfl hdS_X7_within ⟨Nat.le_of_ble_eq_true rfl, Nat.le_of_ble_eq_true rfl⟩) rfl hl.1 rfl (Nat.le_of_ble_eq_true rfl) dX7_board_15 ⟨Nat.zero_le _, Nat.zero_le _⟩) hS (fun _ h => h) (fun r_3 M_3 H locs hP hS hz_r_3 hF => ?_)
    refine lv_if_ne (tgt := 24) hx hb dX7_board_18 (by decide) (fun c_4 => ?_) (fun c_4 => ?_)
    · have hF := hF.2 c_4
      refine lv_aload_n hx hb dX7_board_24 rfl (lv_at hl 0 rfl) ?_
      refine gF S hK hP i7 e_M rfl 7 (by decide) k142 f_M_isPlace dX7_board_25 ?_
      refine lv_if_ne (tgt := 34) hx hb dX7_board_28 (by decide) (fun c_5 => ?_) (fun c_5 => ?_)
      · have hF := hF.2 c_5
        refine lv_iload_n hx hb dX7_board_34 rfl (lv_at hl 1 rfl) ?_
        refine lv_if_ne (tgt := 42) hx hb dX7_board_35 (by decide) (fun c_6 => ?_) (fun c_6 => ?_)
        · have hF := hF.2 c_6
          refine lv_iload_n hx hb dX7_board_42 rfl (lv_at hl 2 rfl) ?_
          refine lv_istore_n (lv' := [(3, .int a2), (0, .ref (ad 32)), (1, .int a1), (2, .int a2)]) hx hb dX7_board_43 rfl hl (by decide) rfl (fun ls hl => ?_)
          refine lv_aload_n hx hb dX7_board_44 rfl (lv_at hl 1 rfl) ?_
          refine gF S hK hP i7 e_M rfl 15 (by decide) k158 f_M_step dX7_board_45 ?_
          refine lv_iload_n hx hb dX7_board_48 rfl (lv_at hl 2 rfl) ?_
          refine lv_icmp_ne (tgt := 64) hx hb dX7_board_49 (by decide) (fun c_7 => ?_) (fun c_7 => ?_)
          · have hF := hF.2 c_7
            refine lv_iconst (v := 1) hx hb dX7_board_64 (by decide) ?_
            refine lv_istore (lv' := [(4, .int (1 : Int32)), (3, .int a2), (0, .ref (ad 32)), (1, .int a1), (2, .int a2)]) hx hb dX7_board_65 hl (by decide) rfl (fun ls hl => ?_)
            refine lv_aload_n hx hb dX7_board_67 rfl (lv_at hl 2 rfl) ?_
            refine lv_iload_n hx hb dX7_board_68 rfl (lv_at hl 3 rfl) ?_
            refine pF S hK had hP hS i7 tyX7_ok nmX7 e_M rfl 15 (by decide) k158 rfl rfl rfl (Nat.lt_of_lt_of_eq (by decide) len_M.symm) s_M_step dX7_board_69 (fun M_8 H locs eM_8 hP hS => ?_)
            have hF := hF M_8 eM_8
            refine lv_aload_n hx hb dX7_board_72 rfl (lv_at hl 2 rfl) ?_
            refine lv_iload_n hx hb dX7_board_73 rfl (lv_at hl 1 rfl) ?_
            refine pF S hK had hP hS i7 tyX7_ok nmX7 e_M rfl 16 (by decide) k161 rfl rfl rfl (Nat.lt_of_lt_of_eq (by decide) len_M.symm) s_M_lie dX7_board_74 (fun M_9 H locs eM_9 hP hS => ?_)
            have hF := hF M_9 eM_9
            refine lv_iload hx hb dX7_board_77 (lv_at hl 0 rfl) ?_
            exact retI S hr hlocks hP hS hF dX7_board_79
          · have hF := hF.1 c_7
            refine lv_aload_n hx hb dX7_board_52 rfl (lv_at hl 1 rfl) ?_
            refine gF S hK hP i7 e_M rfl 16 (by decide) k161 f_M_lie dX7_board_53 ?_
            refine lv_iload_n hx hb dX7_board_56 rfl (lv_at hl 0 rfl) ?_
            refine lv_icmp_ne (tgt := 64) hx hb dX7_board_57 (by decide) (fun c_10 => ?_) (fun c_10 => ?_)
            · have hF := hF.2 c_10
              refine lv_iconst (v := 1) hx hb dX7_board_64 (by decide) ?_
              refine lv_istore (lv' := [(4, .int (1 : Int32)), (3, .int a2), (0, .ref (ad 32)), (1, .int a1), (2, .int a2)]) hx hb dX7_board_65 hl (by decide) rfl (fun ls hl => ?_)
              refine lv_aload_n hx hb dX7_board_67 rfl (lv_at hl 2 rfl) ?_
              refine lv_iload_n hx hb dX7_board_68 rfl (lv_at hl 3 rfl) ?_
              refine pF S hK had hP hS i7 tyX7_ok nmX7 e_M rfl 15 (by decide) k158 rfl rfl rfl (Nat.lt_of_lt_of_eq (by decide) len_M.symm) s_M_step dX7_board_69 (fun M_11 H locs eM_11 hP hS => ?_)
              have hF := hF M_11 eM_11
              refine lv_aload_n hx hb dX7_board_72 rfl (lv_at hl 2 rfl) ?_
              refine lv_iload_n hx hb dX7_board_73 rfl (lv_at hl 1 rfl) ?_
              refine pF S hK had hP hS i7 tyX7_ok nmX7 e_M rfl 16 (by decide) k161 rfl rfl rfl (Nat.lt_of_lt_of_eq (by decide) len_M.symm) s_M_lie dX7_board_74 (fun M_12 H locs eM_12 hP hS => ?_)
              have hF := hF M_12 eM_12
              refine lv_iload hx hb dX7_board_77 (lv_at hl 0 rfl) ?_
              exact retI S hr hlocks hP hS hF dX7_board_79
            · have hF := hF.1 c_10
              refine lv_iconst (v := 0) hx hb dX7_board_60 (by decide) ?_
              refine lv_goto (tgt := 65) hx hb dX7_board_61 (by decide) ?_
              refine lv_istore (lv' := [(4, .int (0 : Int32)), (3, .int a2), (0, .ref (ad 32)), (1, .int a1), (2, .int a2)]) hx hb dX7_board_65 hl (by decide) rfl (fun ls hl => ?_)
              refine lv_aload_n hx hb dX7_board_67 rfl (lv_at hl 2 rfl) ?_
              refine lv_iload_n hx hb dX7_board_68 rfl (lv_at hl 3 rfl) ?_
              refine pF S hK had hP hS i7 tyX7_ok nmX7 e_M rfl 15 (by decide) k158 rfl rfl rfl (Nat.lt_of_lt_of_eq (by decide) len_M.symm) s_M_step dX7_board_69 (fun M_13 H locs eM_13 hP hS => ?_)
              have hF := hF M_13 eM_13
              refine lv_aload_n hx hb dX7_board_72 rfl (lv_at hl 2 rfl) ?_
              refine lv_iload_n hx hb dX7_board_73 rfl (lv_at hl 1 rfl) ?_
              refine pF S hK had hP hS i7 tyX7_ok nmX7 e_M rfl 16 (by decide) k161 rfl rfl rfl (Nat.lt_of_lt_of_eq (by decide) len_M.symm) s_M_lie dX7_board_74 (fun M_14 H locs eM_14 hP hS => ?_)
              have hF := hF M_14 eM_14
              refine lv_iload hx hb dX7_board_77 (lv_at hl 0 rfl) ?_
              exact retI S hr hlocks hP hS hF dX7_board_79
        · have hF := hF.1 c_6
          refine lv_iconst (v := 0) hx hb dX7_board_38 (by decide) ?_
          refine lv_goto (tgt := 43) hx hb dX7_board_39 (by decide) ?_
          refine lv_istore_n (lv' := [(3, .int (0 : Int32)), (0, .ref (ad 32)), (1, .int a1), (2, .int a2)]) hx hb dX7_board_43 rfl hl (by decide) rfl (fun ls hl => ?_)
          refine lv_aload_n hx hb dX7_board_44 rfl (lv_at hl 1 rfl) ?_
          refine gF S hK hP i7 e_M rfl 15 (by decide) k158 f_M_step dX7_board_45 ?_
          refine lv_iload_n hx hb dX7_board_48 rfl (lv_at hl 2 rfl) ?_
          refine lv_icmp_ne (tgt := 64) hx hb dX7_board_49 (by decide) (fun c_15 => ?_) (fun c_15 => ?_)
          · have hF := hF.2 c_15
            refine lv_iconst (v := 1) hx hb dX7_board_64 (by decide) ?_
            refine lv_istore (lv' := [(4, .int (1 : Int32)), (3, .int (0 : Int32)), (0, .ref (ad 32)), (1, .int a1), (2, .int a2)]) hx hb dX7_board_65 hl (by decide) rfl (fun ls hl => ?_)
            refine lv_aload_n hx hb dX7_board_67 rfl (lv_at hl 2 rfl) ?_
            refine lv_iload_n hx hb dX7_board_68 rfl (lv_at hl 3 rfl) ?_
            refine pF S hK had hP hS i7 tyX7_ok nmX7 e_M rfl 15 (by decide) k158 rfl rfl rfl (Nat.lt_of_lt_of_eq (by decide) len_M.symm) s_M_step dX7_board_69 (fun M_16 H locs eM_16 hP hS => ?_)
            have hF := hF M_16 eM_16
            refine lv_aload_n hx hb dX7_board_72 rfl (lv_at hl 2 rfl) ?_
            refine lv_iload_n hx hb dX7_board_73 rfl (lv_at hl 1 rfl) ?_
            refine pF S hK had hP hS i7 tyX7_ok nmX7 e_M rfl 16 (by decide) k161 rfl rfl rfl (Nat.lt_of_lt_of_eq (by decide) len_M.symm) s_M_lie dX7_board_74 (fun M_17 H locs eM_17 hP hS => ?_)
            have hF := hF M_17 eM_17
            refine lv_iload hx hb dX7_board_77 (lv_at hl 0 rfl) ?_
            exact retI S hr hlocks hP hS hF dX7_board_79
          · have hF := hF.1 c_15
            refine lv_aload_n hx hb dX7_board_52 rfl (lv_at hl 1 rfl) ?_
            refine gF S hK hP i7 e_M rfl 16 (by decide) k161 f_M_lie dX7_board_53 ?_
            refine lv_iload_n hx hb dX7_board_56 rfl (lv_at hl 0 rfl) ?_
            refine lv_icmp_ne (tgt := 64) hx hb dX7_board_57 (by decide) (fun c_18 => ?_) (fun c_18 => ?_)
            · have hF := hF.2 c_18
              refine lv_iconst (v := 1) hx hb dX7_board_64 (by decide) ?_
              refine lv_istore (lv' := [(4, .int (1 : Int32)), (3, .int (0 : Int32)), (0, .ref (ad 32)), (1, .int a1), (2, .int a2)]) hx hb dX7_board_65 hl (by decide) rfl (fun ls hl => ?_)
              refine lv_aload_n hx hb dX7_board_67 rfl (lv_at hl 2 rfl) ?_
              refine lv_iload_n hx hb dX7_board_68 rfl (lv_at hl 3 rfl) ?_
              refine pF S hK had hP hS i7 tyX7_ok nmX7 e_M rfl 15 (by decide) k158 rfl rfl rfl (Nat.lt_of_lt_of_eq (by decide) len_M.symm) s_M_step dX7_board_69 (fun M_19 H locs eM_19 hP hS => ?_)
              have hF := hF M_19 eM_19
              refine lv_aload_n hx hb dX7_board_72 rfl (lv_at hl 2 rfl) ?_
              refine lv_iload_n hx hb dX7_board_73 rfl (lv_at hl 1 rfl) ?_
              refine pF S hK had hP hS i7 tyX7_ok nmX7 e_M rfl 16 (by decide) k161 rfl rfl rfl (Nat.lt_of_lt_of_eq (by decide) len_M.symm) s_M_lie dX7_board_74 (fun M_20 H locs eM_20 hP hS => ?_)
              have hF := hF M_20 eM_20
              refine lv_iload hx hb dX7_board_77 (lv_at hl 0 rfl) ?_
              exact retI S hr hlocks hP hS hF dX7_board_79
            · have hF := hF.1 c_18
              refine lv_iconst (v := 0) hx hb dX7_board_60 (by decide) ?_
              refine lv_goto (tgt := 65) hx hb dX7_board_61 (by decide) ?_
              refine lv_istore (lv' := [(4, .int (0 : Int32)), (3, .int (0 : Int32)), (0, .ref (ad 32)), (1, .int a1), (2, .int a2)]) hx hb dX7_board_65 hl (by decide) rfl (fun ls hl => ?_)
              refine lv_aload_n hx hb dX7_board_67 rfl (lv_at hl 2 rfl) ?_
              refine lv_iload_n hx hb dX7_board_68 rfl (lv_at hl 3 rfl) ?_
              refine pF S hK had hP hS i7 tyX7_ok nmX7 e_M rfl 15 (by decide) k158 rfl rfl rfl (Nat.lt_of_lt_of_eq (by decide) len_M.symm) s_M_step dX7_board_69 (fun M_21 H locs eM_21 hP hS => ?_)
              have hF := hF M_21 eM_21
              refine lv_aload_n hx hb dX7_board_72 rfl (lv_at hl 2 rfl) ?_
              refine lv_iload_n hx hb dX7_board_73 rfl (lv_at hl 1 rfl) ?_
              refine pF S hK had hP hS i7 tyX7_ok nmX7 e_M rfl 16 (by decide) k161 rfl rfl rfl (Nat.lt_of_lt_of_eq (by decide) len_M.symm) s_M_lie dX7_board_74 (fun M_22 H locs eM_22 hP hS => ?_)
              have hF := hF M_22 eM_22
              refine lv_iload hx hb dX7_board_77 (lv_at hl 0 rfl) ?_
              exact retI S hr hlocks hP hS hF dX7_board_79
      · have hF := hF.1 c_5
        refine lv_bipush (v := -3) hx hb dX7_board_31 (by decide) ?_
        exact retI S hr hlocks hP hS hF dX7_board_33
    · have hF := hF.1 c_4
      refine lv_bipush (v := -2) hx hb dX7_board_21 (by decide) ?_
      exact retI S hr hlocks hP hS hF dX7_board_23
def bX7_layJoins_16 (k1_ : Nat) (x2_2 : Int32) (Q : Mm → Prop) (J_2 : Int32 → Mm → Prop) (J_16 : Int32 → Mm → Prop) (x3_16 : Int32) (m16 : Mm) : Prop := (((gi m16 31) ≤ x3_16 → (J_2 (x2_2 + 1) m16)) ∧ (¬ (gi m16 31) ≤ x3_16 → (vp_in x2_2 8 ∧ (vp_in x3_16 (lenA k1_) ∧ (((ga m16 k1_ x3_16.toNatClampNeg) ≤ x2_2 → (vp_in x2_2 8 ∧ (∀ M_8 : Mm, M_8 = (sa m16 41 (upd (ga m16 41) x2_2.toNatClampNeg ((ga m16 41 x2_2.toNatClampNeg) + (0 : Int32)))) → (J_16 (x3_16 + 1) M_8)))) ∧ (¬ (ga m16 k1_ x3_16.toNatClampNeg) ≤ x2_2 → (vp_in x3_16 3 ∧ (vp_in x2_2 8 ∧ (∀ M_11 : Mm, M_11 = (sa m16 41 (upd (ga m16 41) x2_2.toNatClampNeg ((ga m16 41 x2_2.toNatClampNeg) + (ga m16 36 x3_16.toNatClampNeg)))) → (J_16 (x3_16 + 1) M_11))))))))))
def lX7_layJoins_16 (k1_ : Nat) (x2_2 : Int32) (Q : Mm → Prop) (J_2 : Int32 → Mm → Prop) (x3_16 : Int32) (m16 : Mm) : Prop := ∀ I : Int32 → Mm → Prop, (∀ J : Int32 → Mm → Prop, (∀ (x3_16 : Int32) (m : Mm), J x3_16 m → I x3_16 m) → ∀ (x3_16 : Int32) (m : Mm), bX7_layJoins_16 k1_ x2_2 Q J_2 J x3_16 m → I x3_16 m) → I x3_16 m16
theorem lX7_layJoins_16_mk (k1_ : Nat) (x2_2 : Int32) (Q : Mm → Prop) (J_2 : Int32 → Mm → Prop) (x3_16 : Int32) (m16 : Mm) (h : bX7_layJoins_16 k1_ x2_2 Q J_2 (lX7_layJoins_16 k1_ x2_2 Q J_2) x3_16 m16) : lX7_layJoins_16 k1_ x2_2 Q J_2 x3_16 m16 := fun I hI => hI (lX7_layJoins_16 k1_ x2_2 Q J_2) (fun _ _ q => q I hI) _ _ h
def bX7_layJoins_2 (k1_ : Nat) (Q : Mm → Prop) (J_2 : Int32 → Mm → Prop) (x2_2 : Int32) (m2 : Mm) : Prop := (((5 : Int32) < x2_2 → (Q m2)) ∧ (¬ (5 : Int32) < x2_2 → (vp_in x2_2 8 ∧ (∀ M_2 : Mm, M_2 = (sa m2 41 (upd (ga m2 41) x2_2.toNatClampNeg (0 : Int32))) → (lX7_layJoins_16 k1_ x2_2 Q J_2 (0 : Int32) M_2)))))
def lX7_layJoins_2 (k1_ : Nat) (Q : Mm → Prop) (x2_2 : Int32) (m2 : Mm) : Prop := ∀ I : Int32 → Mm → Prop, (∀ J : Int32 → Mm → Prop, (∀ (x2_2 : Int32) (m : Mm), J x2_2 m → I x2_2 m) → ∀ (x2_2 : Int32) (m : Mm), bX7_layJoins_2 k1_ Q J x2_2 m → I x2_2 m) → I x2_2 m2
theorem lX7_layJoins_2_mk (k1_ : Nat) (Q : Mm → Prop) (x2_2 : Int32) (m2 : Mm) (h : bX7_layJoins_2 k1_ Q (lX7_layJoins_2 k1_ Q) x2_2 m2) : lX7_layJoins_2 k1_ Q x2_2 m2 := fun I hI => hI (lX7_layJoins_2 k1_ Q) (fun _ _ q => q I hI) _ _ h
def wX7_layJoins (k1_ : Nat) (Q : Mm → Prop) (M : Mm) : Prop := (lX7_layJoins_2 k1_ Q (0 : Int32) M)
set_option maxHeartbeats 4000000 in
set_option maxRecDepth 100000 in
theorem ctX7_layJoins (l : Launch) (D : va_G) (cI cJ : ClassId) (ad : Nat → Nat) (had : inj54 ad) (k1_ : Nat) (hk1_ : isA k1_ = true) (Q : Mm → Prop) (M : Mm) (hF : wX7_layJoins k1_ Q M) : Met l yX7_layJoins wsX7_layJoins ({ frames := 0, cells := 0, slots := 0, locals := 0 } : Room) (PcW D cI cJ ad M [.ref (ad 32), .ref (ad k1_)]) (QvW D cI cJ ad Q) 0 0 (Fr ad) := by
  refine entW (y := yX7_layJoins) (ret := none) (maxL := 4) (plainFor_of_name (by decide)) rfl (Nat.le_of_ble_eq_true rfl) ?_
  intro p e s m args below meth c ls S hK hr hlocks hP hS hl
  have hx := S.1
  have hb := S.2.1
  have hown := S.2.2.2.1
  have hts := S.2.2.2.2
  have i7 : ∀ w ∈ wsX70, w ∈ wsX7_layJoins := by decide +kernel
  have k34 := hts (.fieldLink RX7 34 "RopeLineModel" "joins" "[I") (by decide +kernel)
  have k152 := hts (.fieldLink RX7 152 "RopeLineModel" "sorts" "I") (by decide +kernel)
  have k19 := hts (.fieldLink RX7 19 "RopeLineModel" "twelfths" "[I") (by decide +kernel)
  have hl : lv_has ls 4 [(0, .ref (ad 32)), (1, .ref (ad k1_))] := hl
  unfold wX7_layJoins at hF
  refine lv_iconst (v := 0) hx hb dX7_layJoins_0 (by decide) ?_
  refine lv_istore_n (lv' := [(2, .int (0 : Int32)), (0, .ref (ad 32)), (1, .ref (ad k1_))]) hx hb dX7_layJoins_1 rfl hl (by decide) rfl (fun ls hl => ?_)
  have key_2 : ∀ (x2_2 : Int32) (m2 : Mm), (lX7_layJoins_2 k1_ Q x2_2 m2) → Wc p l e ({ frames := 0, cells := 0, slots := 0, locals := 0 } : Room) s m args below meth c D cI cJ ad (MQ below (QvW D cI cJ ad Q) args s 0 0 (Fr ad)) 4 2 [(0, .ref (ad 32)), (1, .ref (ad k1_)), (2, .int x2_2)] m2 := by
    intro x2_2 m2 hL
    refine hL (fun x2_2 m2 => Wc p l e ({ frames := 0, cells := 0, slots := 0, locals := 0 } : Room) s m args below meth c D cI cJ ad (MQ below (QvW D cI cJ ad Q) args s 0 0 (Fr ad)) 4 2 [(0, .ref (ad 32)), (1, .ref (ad k1_)), (2, .int x2_2)] m2) ?_
    intro J_2 hJ_2 x2_2 m2 hF H locs ls hP hS hl
    unfold bX7_layJoins_2 at hF
    refine lv_iload_n hx hb dX7_layJoins_2 rfl (lv_at hl 2 rfl) ?_
    refine lv_iconst (v := 5) hx hb dX7_layJoins_3 (by decide) ?_
    refine lv_icmp_gt (tgt := 62) hx hb dX7_layJoins_4 (by decide) (fun c_1 => ?_) (fun c_1 => ?_)
    · have hF := hF.1 c_1
      exact retV S hr hlocks hP hS hF dX7_layJoins_62
    · have hF := hF.2 c_1
      refine lv_aload_n hx hb dX7_layJoins_7 rfl (lv_at hl 0 rfl) ?_
      refine gF S hK hP i7 e_M rfl 24 (by decide) k34 f_M_joins dX7_layJoins_8 ?_
      refine lv_iload_n hx hb dX7_layJoins_11 rfl (lv_at hl 2 rfl) ?_
      refine lv_iconst (v := 0) hx hb dX7_layJoins_12 (by decide) ?_
      obtain ⟨hb_3, hF⟩ := hF
      refine stA S hK had hP hS (k := 41) rfl hb_3 dX7_layJoins_13 (fun M_2 H locs eM_2 hP hS => ?_)
      have hF := hF M_2 eM_2
      refine lv_iconst (v := 0) hx hb dX7_layJoins_14 (by decide) ?_
      refine lv_istore_n (lv' := [(3, .int (0 : Int32)), (0, .ref (ad 32)), (1, .ref (ad k1_)), (2, .int x2_2)]) hx hb dX7_layJoins_15 rfl hl (by decide) rfl (fun ls hl => ?_)
      have key_16 : ∀ (x3_16 : Int32) (m16 : Mm), (lX7_layJoins_16 k1_ x2_2 Q J_2 x3_16 m16) → Wc p l e ({ frames := 0, cells := 0, slots := 0, locals := 0 } : Room) s m args below meth c D cI cJ ad (MQ below (QvW D cI cJ ad Q) args s 0 0 (Fr ad)) 4 16 [(0, .ref (ad 32)), (1, .ref (ad k1_)), (2, .int x2_2), (3, .int x3_16)] m16 := by
        intro x3_16 m16 hL
        refine hL (fun x3_16 m16 => Wc p l e ({ frames := 0, cells := 0, slots := 0, locals := 0 } : Room) s m args below meth c D cI cJ ad (MQ below (QvW D cI cJ ad Q) args s 0 0 (Fr ad)) 4 16 [(0, .ref (ad 32)), (1, .ref (ad k1_)), (2, .int x2_2), (3, .int x3_16)] m16) ?_
        intro J_16 hJ_16 x3_16 m16 hF H locs ls hP hS hl
        unfold bX7_layJoins_16 at hF
        refine lv_iload_n hx hb dX7_layJoins_16 rfl (lv_at hl 3 rfl) ?_
        refine lv_aload_n hx hb dX7_layJoins_17 rfl (lv_at hl 0 rfl) ?_
        refine gF S hK hP i7 e_M rfl 10 (by decide) k152 f_M_sorts dX7_layJoins_18 ?_
        refine lv_icmp_ge (tgt := 56) hx hb dX7_layJoins_21 (by decide) (fun c_4 => ?_) (fun c_4 => ?_)
        · have hF := hF.1 c_4
          refine lv_iinc (v := (x2_2 + 1)) (lv' := [(2, .int (x2_2 + 1)), (0, .ref (ad 32)), (1, .ref (ad k1_)), (3, .int x3_16)]) hx hb dX7_layJoins_56 hl (k := 2) rfl rfl (by decide) rfl (fun ls hl => ?_)
          refine lv_goto (tgt := 2) hx hb dX7_layJoins_59 (by decide) ?_
          exact hJ_2 _ _ hF _ _ _ hP hS (lv_sub hl [1, 2, 0] rfl)
        · have hF := hF.2 c_4
          refine lv_aload_n hx hb dX7_layJoins_24 rfl (lv_at hl 0 rfl) ?_
          refine gF S hK hP i7 e_M rfl 24 (by decide) k34 f_M_joins dX7_layJoins_25 ?_
          refine lv_iload_n hx hb dX7_layJoins_28 rfl (lv_at hl 2 rfl) ?_
          refine lv_dup2_11 hx hb dX7_layJoins_29 rfl rfl ?_
          obtain ⟨hb_5, hF⟩ := hF
          refine ldA S hK hP (k := 41) rfl hb_5 dX7_layJoins_30 ?_
          refine lv_aload_n hx hb dX7_layJoins_31 rfl (lv_at hl 1 rfl) ?_
          refine lv_iload_n hx hb dX7_layJoins_32 rfl (lv_at hl 3 rfl) ?_
          obtain ⟨hb_6, hF⟩ := hF
          refine ldA S hK hP (k := k1_) hk1_ hb_6 dX7_layJoins_33 ?_
          refine lv_iload_n hx hb dX7_layJoins_34 rfl (lv_at hl 2 rfl) ?_
          refine lv_icmp_le (tgt := 47) hx hb dX7_layJoins_35 (by decide) (fun c_7 => ?_) (fun c_7 => ?_)
          · have hF := hF.1 c_7
            refine lv_iconst (v := 0) hx hb dX7_layJoins_47 (by decide) ?_
            refine lv_iadd hx hb dX7_layJoins_48 ?_
            obtain ⟨hb_9, hF⟩ := hF
            refine stA S hK had hP hS (k := 41) rfl hb_9 dX7_layJoins_49 (fun M_8 H locs eM_8 hP hS => ?_)
            have hF := hF M_8 eM_8
            refine lv_iinc (v := (x3_16 + 1)) (lv' := [(3, .int (x3_16 + 1)), (0, .ref (ad 32)), (1, .ref (ad k1_)), (2, .int x2_2)]) hx hb dX7_layJoins_50 hl (k := 3) rfl rfl (by decide) rfl (fun ls hl => ?_)
            refine lv_goto (tgt := 16) hx hb dX7_layJoins_53 (by decide) ?_
            exact hJ_16 _ _ hF _ _ _ hP hS (lv_sub hl [1, 2, 3, 0] rfl)
          · have hF := hF.2 c_7
            refine lv_aload_n hx hb dX7_layJoins_38 rfl (lv_at hl 0 rfl) ?_
            refine gF S hK hP i7 e_M rfl 11 (by decide) k19 f_M_twelfths dX7_layJoins_39 ?_
            refine lv_iload_n hx hb dX7_layJoins_42 rfl (lv_at hl 3 rfl) ?_
            obtain ⟨hb_10, hF⟩ := hF
            refine ldA S hK hP (k := 36) rfl hb_10 dX7_layJoins_43 ?_
            refine lv_goto (tgt := 48) hx hb dX7_layJoins_44 (by decide) ?_
            refine lv_iadd hx hb dX7_layJoins_48 ?_
            obtain ⟨hb_12, hF⟩ := hF
            refine stA S hK had hP hS (k := 41) rfl hb_12 dX7_layJoins_49 (fun M_11 H locs eM_11 hP hS => ?_)
            have hF := hF M_11 eM_11
            refine lv_iinc (v := (x3_16 + 1)) (lv' := [(3, .int (x3_16 + 1)), (0, .ref (ad 32)), (1, .ref (ad k1_)), (2, .int x2_2)]) hx hb dX7_layJoins_50 hl (k := 3) rfl rfl (by decide) rfl (fun ls hl => ?_)
            refine lv_goto (tgt := 16) hx hb dX7_layJoins_53 (by decide) ?_
            exact hJ_16 _ _ hF _ _ _ hP hS (lv_sub hl [1, 2, 3, 0] rfl)
      exact key_16 _ _ hF _ _ _ hP hS (lv_sub hl [1, 2, 3, 0] rfl)
  exact key_2 _ _ hF _ _ _ hP hS (lv_sub hl [1, 2, 0] rfl)
def bX7_layWeights_68 (Q : Mm → Prop) (J_2 : Int32 → Mm → Prop) (J_68 : Int32 → Mm → Prop) (x2_68 : Int32) (m68 : Mm) : Prop := (((8 : Int32) ≤ x2_68 → (Q m68)) ∧ (¬ (8 : Int32) ≤ x2_68 → (vp_in x2_68 8 ∧ (∀ M_3 : Mm, M_3 = (sb m68 44 (vp_updL (gb m68 44) x2_68.toNatClampNeg (0 : Int64))) → (J_68 (x2_68 + 1) M_3)))))
def lX7_layWeights_68 (Q : Mm → Prop) (J_2 : Int32 → Mm → Prop) (x2_68 : Int32) (m68 : Mm) : Prop := ∀ I : Int32 → Mm → Prop, (∀ J : Int32 → Mm → Prop, (∀ (x2_68 : Int32) (m : Mm), J x2_68 m → I x2_68 m) → ∀ (x2_68 : Int32) (m : Mm), bX7_layWeights_68 Q J_2 J x2_68 m → I x2_68 m) → I x2_68 m68
theorem lX7_layWeights_68_mk (Q : Mm → Prop) (J_2 : Int32 → Mm → Prop) (x2_68 : Int32) (m68 : Mm) (h : bX7_layWeights_68 Q J_2 (lX7_layWeights_68 Q J_2) x2_68 m68) : lX7_layWeights_68 Q J_2 x2_68 m68 := fun I hI => hI (lX7_layWeights_68 Q J_2) (fun _ _ q => q I hI) _ _ h
def bX7_layWeights_16 (a1 : Int32) (x2_2 : Int32) (Q : Mm → Prop) (J_2 : Int32 → Mm → Prop) (J_16 : Int32 → Mm → Prop) (x3_16 : Int32) (m16 : Mm) : Prop := ((a1 ≤ x3_16 → (J_2 (x2_2 + 1) m16)) ∧ (¬ a1 ≤ x3_16 → (vp_in x2_2 8 ∧ ((x2_2 ≤ x3_16 → (vp_in (x3_16 + (1 : Int32)) 8 ∧ (vp_in x2_2 8 ∧ (∀ M_11 : Mm, M_11 = (sb m16 44 (vp_updL (gb m16 44) x2_2.toNatClampNeg ((gb m16 44 x2_2.toNatClampNeg) * (gb m16 43 (x3_16 + (1 : Int32)).toNatClampNeg)))) → (J_16 (x3_16 + 1) M_11))))) ∧ (¬ x2_2 ≤ x3_16 → (vp_in x3_16 8 ∧ (vp_in x2_2 8 ∧ (∀ M_14 : Mm, M_14 = (sb m16 44 (vp_updL (gb m16 44) x2_2.toNatClampNeg ((gb m16 44 x2_2.toNatClampNeg) * (gb m16 42 x3_16.toNatClampNeg)))) → (J_16 (x3_16 + 1) M_14)))))))))
def lX7_layWeights_16 (a1 : Int32) (x2_2 : Int32) (Q : Mm → Prop) (J_2 : Int32 → Mm → Prop) (x3_16 : Int32) (m16 : Mm) : Prop := ∀ I : Int32 → Mm → Prop, (∀ J : Int32 → Mm → Prop, (∀ (x3_16 : Int32) (m : Mm), J x3_16 m → I x3_16 m) → ∀ (x3_16 : Int32) (m : Mm), bX7_layWeights_16 a1 x2_2 Q J_2 J x3_16 m → I x3_16 m) → I x3_16 m16
theorem lX7_layWeights_16_mk (a1 : Int32) (x2_2 : Int32) (Q : Mm → Prop) (J_2 : Int32 → Mm → Prop) (x3_16 : Int32) (m16 : Mm) (h : bX7_layWeights_16 a1 x2_2 Q J_2 (lX7_layWeights_16 a1 x2_2 Q J_2) x3_16 m16) : lX7_layWeights_16 a1 x2_2 Q J_2 x3_16 m16 := fun I hI => hI (lX7_layWeights_16 a1 x2_2 Q J_2) (fun _ _ q => q I hI) _ _ h
def bX7_layWeights_2 (a1 : Int32) (Q : Mm → Prop) (J_2 : Int32 → Mm → Prop) (x2_2 : Int32) (m2 : Mm) : Prop := ((a1 < x2_2 → (lX7_layWeights_68 Q J_2 (a1 + (1 : Int32)) m2)) ∧ (¬ a1 < x2_2 → (vp_in x2_2 8 ∧ (∀ M_5 : Mm, M_5 = (sb m2 44 (vp_updL (gb m2 44) x2_2.toNatClampNeg (1 : Int64))) → (lX7_layWeights_16 a1 x2_2 Q J_2 (0 : Int32) M_5)))))
def lX7_layWeights_2 (a1 : Int32) (Q : Mm → Prop) (x2_2 : Int32) (m2 : Mm) : Prop := ∀ I : Int32 → Mm → Prop, (∀ J : Int32 → Mm → Prop, (∀ (x2_2 : Int32) (m : Mm), J x2_2 m → I x2_2 m) → ∀ (x2_2 : Int32) (m : Mm), bX7_layWeights_2 a1 Q J x2_2 m → I x2_2 m) → I x2_2 m2
theorem lX7_layWeights_2_mk (a1 : Int32) (Q : Mm → Prop) (x2_2 : Int32) (m2 : Mm) (h : bX7_layWeights_2 a1 Q (lX7_layWeights_2 a1 Q) x2_2 m2) : lX7_layWeights_2 a1 Q x2_2 m2 := fun I hI => hI (lX7_layWeights_2 a1 Q) (fun _ _ q => q I hI) _ _ h
def wX7_layWeights (a1 : Int32) (Q : Mm → Prop) (M : Mm) : Prop := (lX7_layWeights_2 a1 Q (0 : Int32) M)
set_option maxHeartbeats 4000000 in
set_option maxRecDepth 100000 in
theorem ctX7_layWeights (l : Launch) (D : va_G) (cI cJ : ClassId) (ad : Nat → Nat) (had : inj54 ad) (a1 : Int32) (Q : Mm → Prop) (M : Mm) (hF : wX7_layWeights a1 Q M) : Met l yX7_layWeights wsX7_layWeights ({ frames := 0, cells := 0, slots := 0, locals := 0 } : Room) (PcW D cI cJ ad M [.ref (ad 32), .int a1]) (QvW D cI cJ ad Q) 0 0 (Fr ad) := by
  refine entW (y := yX7_layWeights) (ret := none) (maxL := 4) (plainFor_of_name (by decide)) rfl (Nat.le_of_ble_eq_true rfl) ?_
  intro p e s m args below meth c ls S hK hr hlocks hP hS hl
  have hx := S.1
  have hb := S.2.1
  have hown := S.2.2.2.1
  have hts := S.2.2.2.2
  have i7 : ∀ w ∈ wsX70, w ∈ wsX7_layWeights := by decide +kernel
  have k44 := hts (.fieldLink RX7 44 "RopeLineModel" "weights" "[J") (by decide +kernel)
  have k41 := hts (.fieldLink RX7 41 "RopeLineModel" "downs" "[J") (by decide +kernel)
  have k37 := hts (.fieldLink RX7 37 "RopeLineModel" "ups" "[J") (by decide +kernel)
  have hl : lv_has ls 4 [(0, .ref (ad 32)), (1, .int a1)] := hl
  unfold wX7_layWeights at hF
  refine lv_iconst (v := 0) hx hb dX7_layWeights_0 (by decide) ?_
  refine lv_istore_n (lv' := [(2, .int (0 : Int32)), (0, .ref (ad 32)), (1, .int a1)]) hx hb dX7_layWeights_1 rfl hl (by decide) rfl (fun ls hl => ?_)
  have key_2 : ∀ (x2_2 : Int32) (m2 : Mm), (lX7_layWeights_2 a1 Q x2_2 m2) → Wc p l e ({ frames := 0, cells := 0, slots := 0, locals := 0 } : Room) s m args below meth c D cI cJ ad (MQ below (QvW D cI cJ ad Q) args s 0 0 (Fr ad)) 4 2 [(0, .ref (ad 32)), (1, .int a1), (2, .int x2_2)] m2 := by
    intro x2_2 m2 hL
    refine hL (fun x2_2 m2 => Wc p l e ({ frames := 0, cells := 0, slots := 0, locals := 0 } : Room) s m args below meth c D cI cJ ad (MQ below (QvW D cI cJ ad Q) args s 0 0 (Fr ad)) 4 2 [(0, .ref (ad 32)), (1, .int a1), (2, .int x2_2)] m2) ?_
    intro J_2 hJ_2 x2_2 m2 hF H locs ls hP hS hl
    unfold bX7_layWeights_2 at hF
    refine lv_iload_n hx hb dX7_layWeights_2 rfl (lv_at hl 2 rfl) ?_
    refine lv_iload_n hx hb dX7_layWeights_3 rfl (lv_at hl 1 rfl) ?_
    refine lv_icmp_gt (tgt := 64) hx hb dX7_layWeights_4 (by decide) (fun c_1 => ?_) (fun c_1 => ?_)
    · have hF := hF.1 c_1
      refine lv_iload_n hx hb dX7_layWeights_64 rfl (lv_at hl 1 rfl) ?_
      refine lv_iconst (v := 1) hx hb dX7_layWeights_65 (by decide) ?_
      refine lv_iadd hx hb dX7_layWeights_66 ?_
      refine lv_istore_n (lv' := [(2, .int (a1 + (1 : Int32))), (0, .ref (ad 32)), (1, .int a1)]) hx hb dX7_layWeights_67 rfl hl (by decide) rfl (fun ls hl => ?_)
      have key_68 : ∀ (x2_68 : Int32) (m68 : Mm), (lX7_layWeights_68 Q J_2 x2_68 m68) → Wc p l e ({ frames := 0, cells := 0, slots := 0, locals := 0 } : Room) s m args below meth c D cI cJ ad (MQ below (QvW D cI cJ ad Q) args s 0 0 (Fr ad)) 4 68 [(0, .ref (ad 32)), (2, .int x2_68)] m68 := by
        intro x2_68 m68 hL
        refine hL (fun x2_68 m68 => Wc p l e ({ frames := 0, cells := 0, slots := 0, locals := 0 } : Room) s m args below meth c D cI cJ ad (MQ below (QvW D cI cJ ad Q) args s 0 0 (Fr ad)) 4 68 [(0, .ref (ad 32)), (2, .int x2_68)] m68) ?_
        intro J_68 hJ_68 x2_68 m68 hF H locs ls hP hS hl
        unfold bX7_layWeights_68 at hF
        refine lv_iload_n hx hb dX7_layWeights_68 rfl (lv_at hl 1 rfl) ?_
        refine lv_bipush (v := 8) hx hb dX7_layWeights_69 (by decide) ?_
        refine lv_icmp_ge (tgt := 87) hx hb dX7_layWeights_71 (by decide) (fun c_2 => ?_) (fun c_2 => ?_)
        · have hF := hF.1 c_2
          exact retV S hr hlocks hP hS hF dX7_layWeights_87
        · have hF := hF.2 c_2
          refine lv_aload_n hx hb dX7_layWeights_74 rfl (lv_at hl 0 rfl) ?_
          refine gF S hK hP i7 e_M rfl 27 (by decide) k44 f_M_weights dX7_layWeights_75 ?_
          refine lv_iload_n hx hb dX7_layWeights_78 rfl (lv_at hl 1 rfl) ?_
          refine lv_lconst (v := 0) hx hb dX7_layWeights_79 (by decide) ?_
          obtain ⟨hb_4, hF⟩ := hF
          refine stB S hK had hP hS (k := 44) rfl hb_4 dX7_layWeights_80 (fun M_3 H locs eM_3 hP hS => ?_)
          have hF := hF M_3 eM_3
          refine lv_iinc (v := (x2_68 + 1)) (lv' := [(2, .int (x2_68 + 1)), (0, .ref (ad 32))]) hx hb dX7_layWeights_81 hl (k := 1) rfl rfl (by decide) rfl (fun ls hl => ?_)
          refine lv_goto (tgt := 68) hx hb dX7_layWeights_84 (by decide) ?_
          exact hJ_68 _ _ hF _ _ _ hP hS (lv_sub hl [1, 0] rfl)
      exact key_68 _ _ hF _ _ _ hP hS (lv_sub hl [1, 0] rfl)
    · have hF := hF.2 c_1
      refine lv_aload_n hx hb dX7_layWeights_7 rfl (lv_at hl 0 rfl) ?_
      refine gF S hK hP i7 e_M rfl 27 (by decide) k44 f_M_weights dX7_layWeights_8 ?_
      refine lv_iload_n hx hb dX7_layWeights_11 rfl (lv_at hl 2 rfl) ?_
      refine lv_lconst (v := 1) hx hb dX7_layWeights_12 (by decide) ?_
      obtain ⟨hb_6, hF⟩ := hF
      refine stB S hK had hP hS (k := 44) rfl hb_6 dX7_layWeights_13 (fun M_5 H locs eM_5 hP hS => ?_)
      have hF := hF M_5 eM_5
      refine lv_iconst (v := 0) hx hb dX7_layWeights_14 (by decide) ?_
      refine lv_istore_n (lv' := [(3, .int (0 : Int32)), (0, .ref (ad 32)), (1, .int a1), (2, .int x2_2)]) hx hb dX7_layWeights_15 rfl hl (by decide) rfl (fun ls hl => ?_)
      have key_16 : ∀ (x3_16 : Int32) (m16 : Mm), (lX7_layWeights_16 a1 x2_2 Q J_2 x3_16 m16) → Wc p l e ({ frames := 0, cells := 0, slots := 0, locals := 0 } : Room) s m args below meth c D cI cJ ad (MQ below (QvW D cI cJ ad Q) args s 0 0 (Fr ad)) 4 16 [(0, .ref (ad 32)), (1, .int a1), (2, .int x2_2), (3, .int x3_16)] m16 := by
        intro x3_16 m16 hL
        refine hL (fun x3_16 m16 => Wc p l e ({ frames := 0, cells := 0, slots := 0, locals := 0 } : Room) s m args below meth c D cI cJ ad (MQ below (QvW D cI cJ ad Q) args s 0 0 (Fr ad)) 4 16 [(0, .ref (ad 32)), (1, .int a1), (2, .int x2_2), (3, .int x3_16)] m16) ?_
        intro J_16 hJ_16 x3_16 m16 hF H locs ls hP hS hl
        unfold bX7_layWeights_16 at hF
        refine lv_iload_n hx hb dX7_layWeights_16 rfl (lv_at hl 3 rfl) ?_
        refine lv_iload_n hx hb dX7_layWeights_17 rfl (lv_at hl 1 rfl) ?_
        refine lv_icmp_ge (tgt := 58) hx hb dX7_layWeights_18 (by decide) (fun c_7 => ?_) (fun c_7 => ?_)
        · have hF := hF.1 c_7
          refine lv_iinc (v := (x2_2 + 1)) (lv' := [(2, .int (x2_2 + 1)), (0, .ref (ad 32)), (1, .int a1), (3, .int x3_16)]) hx hb dX7_layWeights_58 hl (k := 2) rfl rfl (by decide) rfl (fun ls hl => ?_)
          refine lv_goto (tgt := 2) hx hb dX7_layWeights_61 (by decide) ?_
          exact hJ_2 _ _ hF _ _ _ hP hS (lv_sub hl [1, 2, 0] rfl)
        · have hF := hF.2 c_7
          refine lv_aload_n hx hb dX7_layWeights_21 rfl (lv_at hl 0 rfl) ?_
          refine gF S hK hP i7 e_M rfl 27 (by decide) k44 f_M_weights dX7_layWeights_22 ?_
          refine lv_iload_n hx hb dX7_layWeights_25 rfl (lv_at hl 2 rfl) ?_
          refine lv_dup2_11 hx hb dX7_layWeights_26 rfl rfl ?_
          obtain ⟨hb_8, hF⟩ := hF
          refine ldB S hK hP (k := 44) rfl hb_8 dX7_layWeights_27 ?_
          refine lv_iload_n hx hb dX7_layWeights_28 rfl (lv_at hl 3 rfl) ?_
          refine lv_iload_n hx hb dX7_layWeights_29 rfl (lv_at hl 2 rfl) ?_
          refine lv_icmp_ge (tgt := 42) hx hb dX7_layWeights_30 (by decide) (fun c_9 => ?_) (fun c_9 => ?_)
          · have hF := hF.1 c_9
            refine lv_aload_n hx hb dX7_layWeights_42 rfl (lv_at hl 0 rfl) ?_
            refine gF S hK hP i7 e_M rfl 26 (by decide) k41 f_M_downs dX7_layWeights_43 ?_
            refine lv_iload_n hx hb dX7_layWeights_46 rfl (lv_at hl 3 rfl) ?_
            refine lv_iconst (v := 1) hx hb dX7_layWeights_47 (by decide) ?_
            refine lv_iadd hx hb dX7_layWeights_48 ?_
            obtain ⟨hb_10, hF⟩ := hF
            refine ldB S hK hP (k := 43) rfl hb_10 dX7_layWeights_49 ?_
            refine lv_lmul hx hb dX7_layWeights_50 ?_
            obtain ⟨hb_12, hF⟩ := hF
            refine stB S hK had hP hS (k := 44) rfl hb_12 dX7_layWeights_51 (fun M_11 H locs eM_11 hP hS => ?_)
            have hF := hF M_11 eM_11
            refine lv_iinc (v := (x3_16 + 1)) (lv' := [(3, .int (x3_16 + 1)), (0, .ref (ad 32)), (1, .int a1), (2, .int x2_2)]) hx hb dX7_layWeights_52 hl (k := 3) rfl rfl (by decide) rfl (fun ls hl => ?_)
            refine lv_goto (tgt := 16) hx hb dX7_layWeights_55 (by decide) ?_
            exact hJ_16 _ _ hF _ _ _ hP hS (lv_sub hl [1, 2, 3, 0] rfl)
          · have hF := hF.2 c_9
            refine lv_aload_n hx hb dX7_layWeights_33 rfl (lv_at hl 0 rfl) ?_
            refine gF S hK hP i7 e_M rfl 25 (by decide) k37 f_M_ups dX7_layWeights_34 ?_
            refine lv_iload_n hx hb dX7_layWeights_37 rfl (lv_at hl 3 rfl) ?_
            obtain ⟨hb_13, hF⟩ := hF
            refine ldB S hK hP (k := 42) rfl hb_13 dX7_layWeights_38 ?_
            refine lv_goto (tgt := 50) hx hb dX7_layWeights_39 (by decide) ?_
            refine lv_lmul hx hb dX7_layWeights_50 ?_
            obtain ⟨hb_15, hF⟩ := hF
            refine stB S hK had hP hS (k := 44) rfl hb_15 dX7_layWeights_51 (fun M_14 H locs eM_14 hP hS => ?_)
            have hF := hF M_14 eM_14
            refine lv_iinc (v := (x3_16 + 1)) (lv' := [(3, .int (x3_16 + 1)), (0, .ref (ad 32)), (1, .int a1), (2, .int x2_2)]) hx hb dX7_layWeights_52 hl (k := 3) rfl rfl (by decide) rfl (fun ls hl => ?_)
            refine lv_goto (tgt := 16) hx hb dX7_layWeights_55 (by decide) ?_
            exact hJ_16 _ _ hF _ _ _ hP hS (lv_sub hl [1, 2, 3, 0] rfl)
      exact key_16 _ _ hF _ _ _ hP hS (lv_sub hl [1, 2, 3, 0] rfl)
  exact key_2 _ _ hF _ _ _ hP hS (lv_sub hl [1, 2, 0] rfl)
def bX7_layRun_7 (k1_ : Nat) (Q : Mm → Prop) (J_7 : Int32 → Mm → Prop) (x2_7 : Int32) (m7 : Mm) : Prop := (((5 : Int32) < x2_7 → (wX7_layWeights (5 : Int32) (fun M_3 => (Q M_3)) m7)) ∧ (¬ (5 : Int32) < x2_7 → ((x2_7 = 0 → (vp_in x2_7 8 ∧ (vp_in x2_7 8 ∧ (∀ M_15 : Mm, M_15 = (sb m7 42 (vp_updL (gb m7 42) x2_7.toNatClampNeg ((12 : Int64) * ((ga m7 41 x2_7.toNatClampNeg).toInt64)))) → ((x2_7 = 0 → (vp_in x2_7 8 ∧ (∀ M_21 : Mm, M_21 = (sb M_15 43 (vp_updL (gb M_15 43) x2_7.toNatClampNeg (0 : Int64))) → (J_7 (x2_7 + 1) M_21)))) ∧ (¬ x2_7 = 0 → (vp_in (x2_7 - (1 : Int32)) 8 ∧ (vp_in x2_7 8 ∧ (∀ M_19 : Mm, M_19 = (sb M_15 43 (vp_updL (gb M_15 43) x2_7.toNatClampNeg (((gi M_15 29).toInt64) * (((12 : Int32) - (ga M_15 41 (x2_7 - (1 : Int32)).toNatClampNeg)).toInt64)))) → (J_7 (x2_7 + 1) M_19)))))))))) ∧ (¬ x2_7 = 0 → (vp_in x2_7 8 ∧ (vp_in x2_7 8 ∧ (∀ M_6 : Mm, M_6 = (sb m7 42 (vp_updL (gb m7 42) x2_7.toNatClampNeg (((12 : Int64) - ((gi m7 29).toInt64)) * ((ga m7 41 x2_7.toNatClampNeg).toInt64)))) → ((x2_7 = 0 → (vp_in x2_7 8 ∧ (∀ M_12 : Mm, M_12 = (sb M_6 43 (vp_updL (gb M_6 43) x2_7.toNatClampNeg (0 : Int64))) → (J_7 (x2_7 + 1) M_12)))) ∧ (¬ x2_7 = 0 → (vp_in (x2_7 - (1 : Int32)) 8 ∧ (vp_in x2_7 8 ∧ (∀ M_10 : Mm, M_10 = (sb M_6 43 (vp_updL (gb M_6 43) x2_7.toNatClampNeg (((gi M_6 29).toInt64) * (((12 : Int32) - (ga M_6 41 (x2_7 - (1 : Int32)).toNatClampNeg)).toInt64)))) → (J_7 (x2_7 + 1) M_10)))))))))))))
def lX7_layRun_7 (k1_ : Nat) (Q : Mm → Prop) (x2_7 : Int32) (m7 : Mm) : Prop := ∀ I : Int32 → Mm → Prop, (∀ J : Int32 → Mm → Prop, (∀ (x2_7 : Int32) (m : Mm), J x2_7 m → I x2_7 m) → ∀ (x2_7 : Int32) (m : Mm), bX7_layRun_7 k1_ Q J x2_7 m → I x2_7 m) → I x2_7 m7
theorem lX7_layRun_7_mk (k1_ : Nat) (Q : Mm → Prop) (x2_7 : Int32) (m7 : Mm) (h : bX7_layRun_7 k1_ Q (lX7_layRun_7 k1_ Q) x2_7 m7) : lX7_layRun_7 k1_ Q x2_7 m7 := fun I hI => hI (lX7_layRun_7 k1_ Q) (fun _ _ q => q I hI) _ _ h
def wX7_layRun (k1_ : Nat) (Q : Mm → Prop) (M : Mm) : Prop := (wX7_layJoins k1_ (fun M_1 => (lX7_layRun_7 k1_ Q (0 : Int32) M_1)) M)
set_option maxHeartbeats 4000000 in
set_option maxRecDepth 100000 in
theorem ctX7_layRun (l : Launch) (D : va_G) (cI cJ : ClassId) (ad : Nat → Nat) (had : inj54 ad) (k1_ : Nat) (hk1_ : isA k1_ = true) (Q : Mm → Prop) (M : Mm) (hF : wX7_layRun k1_ Q M) : Met l yX7_layRun wsX7_layRun ({ frames := 1, cells := 0, slots := 0, locals := 23 } : Room) (PcW D cI cJ ad M [.ref (ad 32), .ref (ad k1_)]) (QvW D cI cJ ad Q) 0 0 (Fr ad) := by
  refine entW (y := yX7_layRun) (ret := none) (maxL := 3) (plainFor_of_name (by decide)) rfl (Nat.le_of_ble_eq_true rfl) ?_
  intro p e s m args below meth c ls S hK hr hlocks hP hS hl
  have hx := S.1
  have hb := S.2.1
  have hown := S.2.2.2.1
  have hts := S.2.2.2.2
  have i7 : ∀ w ∈ wsX70, w ∈ wsX7_layRun := by decide +kernel
  have k37 := hts (.fieldLink RX7 37 "RopeLineModel" "ups" "[J") (by decide +kernel)
  have k146 := hts (.fieldLink RX7 146 "RopeLineModel" "served" "I") (by decide +kernel)
  have k34 := hts (.fieldLink RX7 34 "RopeLineModel" "joins" "[I") (by decide +kernel)
  have k41 := hts (.fieldLink RX7 41 "RopeLineModel" "downs" "[J") (by decide +kernel)
  have hl : lv_has ls 3 [(0, .ref (ad 32)), (1, .ref (ad k1_))] := hl
  unfold wX7_layRun at hF
  refine lv_aload_n hx hb dX7_layRun_0 rfl (lv_at hl 0 rfl) ?_
  refine lv_aload_n hx hb dX7_layRun_1 rfl (lv_at hl 1 rfl) ?_
  refine goV (rV (rest := []) S hK hP (ctX7_layJoins l D cI cJ ad had k1_ hk1_ _ _ hF) (cwV 1 hts gX7_layRun_X7_layJoins rfl rfl rfl hdV_X7_layJoins ⟨Nat.le_of_ble_eq_true rfl, Nat.le_of_ble_eq_true rfl⟩) e_M rfl rfl hl.1 rfl (Nat.le_of_ble_eq_true rfl) dX7_layRun_2 ⟨Nat.zero_le _, Nat.zero_le _⟩) hS (fun _ h => h) (fun M_1 H locs hP hS hF => ?_)
  refine lv_iconst (v := 0) hx hb dX7_layRun_5 (by decide) ?_
  refine lv_istore_n (lv' := [(2, .int (0 : Int32)), (0, .ref (ad 32)), (1, .ref (ad k1_))]) hx hb dX7_layRun_6 rfl hl (by decide) rfl (fun ls hl => ?_)
  have key_7 : ∀ (x2_7 : Int32) (m7 : Mm), (lX7_layRun_7 k1_ Q x2_7 m7) → Wc p l e ({ frames := 1, cells := 0, slots := 0, locals := 23 } : Room) s m args below meth c D cI cJ ad (MQ below (QvW D cI cJ ad Q) args s 0 0 (Fr ad)) 3 7 [(0, .ref (ad 32)), (2, .int x2_7)] m7 := by
    intro x2_7 m7 hL
    refine hL (fun x2_7 m7 => Wc p l e ({ frames := 1, cells := 0, slots := 0, locals := 23 } : Room) s m args below meth c D cI cJ ad (MQ below (QvW D cI cJ ad Q) args s 0 0 (Fr ad)) 3 7 [(0, .ref (ad 32)), (2, .int x2_7)] m7) ?_
    intro J_7 hJ_7 x2_7 m7 hF H locs ls hP hS hl
    unfold bX7_layRun_7 at hF
    refine lv_iload_n hx hb dX7_layRun_7 rfl (lv_at hl 1 rfl) ?_
    refine lv_iconst (v := 5) hx hb dX7_layRun_8 (by decide) ?_
    refine lv_icmp_gt (tgt := 83) hx hb dX7_layRun_9 (by decide) (fun c_2 => ?_) (fun c_2 => ?_)
    · have hF := hF.1 c_2
      refine lv_aload_n hx hb dX7_layRun_83 rfl (lv_at hl 0 rfl) ?_
      refine lv_iconst (v := 5) hx hb dX7_layRun_84 (by decide) ?_
      refine goV (rV (rest := []) S hK hP (ctX7_layWeights l D cI cJ ad had (5 : Int32) _ _ hF) (cwV 1 hts gX7_layRun_X7_layWeights rfl rfl rfl hdV_X7_layWeights ⟨Nat.le_of_ble_eq_true rfl, Nat.le_of_ble_eq_true rfl⟩) e_M rfl rfl hl.1 rfl (Nat.le_of_ble_eq_true rfl) dX7_layRun_85 ⟨Nat.zero_le _, Nat.zero_le _⟩) hS (fun _ h => h) (fun M_3 H locs hP hS hF => ?_)
      exact retV S hr hlocks hP hS hF dX7_layRun_88
    · have hF := hF.2 c_2
      refine lv_aload_n hx hb dX7_layRun_12 rfl (lv_at hl 0 rfl) ?_
      refine gF S hK hP i7 e_M rfl 25 (by decide) k37 f_M_ups dX7_layRun_13 ?_
      refine lv_iload_n hx hb dX7_layRun_16 rfl (lv_at hl 1 rfl) ?_
      refine lv_iload_n hx hb dX7_layRun_17 rfl (lv_at hl 1 rfl) ?_
      refine lv_if_ne (tgt := 27) hx hb dX7_layRun_18 (by decide) (fun c_4 => ?_) (fun c_4 => ?_)
      · have hF := hF.2 c_4
        refine lv_ldc2 (v := 12) hx hb hown (hts (.constantLong RX7 188 (12)) (by decide +kernel)) dX7_layRun_27 ?_
        refine lv_aload_n hx hb dX7_layRun_30 rfl (lv_at hl 0 rfl) ?_
        refine gF S hK hP i7 e_M rfl 8 (by decide) k146 f_M_served dX7_layRun_31 ?_
        refine lv_i2l hx hb dX7_layRun_34 rfl ?_
        refine lv_lsub hx hb dX7_layRun_35 ?_
        refine lv_aload_n hx hb dX7_layRun_36 rfl (lv_at hl 0 rfl) ?_
        refine gF S hK hP i7 e_M rfl 24 (by decide) k34 f_M_joins dX7_layRun_37 ?_
        refine lv_iload_n hx hb dX7_layRun_40 rfl (lv_at hl 1 rfl) ?_
        obtain ⟨hb_5, hF⟩ := hF
        refine ldA S hK hP (k := 41) rfl hb_5 dX7_layRun_41 ?_
        refine lv_i2l hx hb dX7_layRun_42 rfl ?_
        refine lv_lmul hx hb dX7_layRun_43 ?_
        obtain ⟨hb_7, hF⟩ := hF
        refine stB S hK had hP hS (k := 42) rfl hb_7 dX7_layRun_44 (fun M_6 H locs eM_6 hP hS => ?_)
        have hF := hF M_6 eM_6
        refine lv_aload_n hx hb dX7_layRun_45 rfl (lv_at hl 0 rfl) ?_
        refine gF S hK hP i7 e_M rfl 26 (by decide) k41 f_M_downs dX7_layRun_46 ?_
        refine lv_iload_n hx hb dX7_layRun_49 rfl (lv_at hl 1 rfl) ?_
        refine lv_iload_n hx hb dX7_layRun_50 rfl (lv_at hl 1 rfl) ?_
        refine lv_if_ne (tgt := 58) hx hb dX7_layRun_51 (by decide) (fun c_8 => ?_) (fun c_8 => ?_)
        · have hF := hF.2 c_8
          refine lv_aload_n hx hb dX7_layRun_58 rfl (lv_at hl 0 rfl) ?_
          refine gF S hK hP i7 e_M rfl 8 (by decide) k146 f_M_served dX7_layRun_59 ?_
          refine lv_i2l hx hb dX7_layRun_62 rfl ?_
          refine lv_bipush (v := 12) hx hb dX7_layRun_63 (by decide) ?_
          refine lv_aload_n hx hb dX7_layRun_65 rfl (lv_at hl 0 rfl) ?_
          refine gF S hK hP i7 e_M rfl 24 (by decide) k34 f_M_joins dX7_layRun_66 ?_
          refine lv_iload_n hx hb dX7_layRun_69 rfl (lv_at hl 1 rfl) ?_
          refine lv_iconst (v := 1) hx hb dX7_layRun_70 (by decide) ?_
          refine lv_isub hx hb dX7_layRun_71 ?_
          obtain ⟨hb_9, hF⟩ := hF
          refine ldA S hK hP (k := 41) rfl hb_9 dX7_layRun_72 ?_
          refine lv_isub hx hb dX7_layRun_73 ?_
          refine lv_i2l hx hb dX7_layRun_74 rfl ?_
          refine lv_lmul hx hb dX7_layRun_75 ?_
          obtain ⟨hb_11, hF⟩ := hF
          refine stB S hK had hP hS (k := 43) rfl hb_11 dX7_layRun_76 (fun M_10 H locs eM_10 hP hS => ?_)
          have hF := hF M_10 eM_10
          refine lv_iinc (v := (x2_7 + 1)) (lv' := [(2, .int (x2_7 + 1)), (0, .ref (ad 32))]) hx hb dX7_layRun_77 hl (k := 1) rfl rfl (by decide) rfl (fun ls hl => ?_)
          refine lv_goto (tgt := 7) hx hb dX7_layRun_80 (by decide) ?_
          exact hJ_7 _ _ hF _ _ _ hP hS (lv_sub hl [1, 0] rfl)
        · have hF := hF.1 c_8
          refine lv_lconst (v := 0) hx hb dX7_layRun_54 (by decide) ?_
          refine lv_goto (tgt := 76) hx hb dX7_layRun_55 (by decide) ?_
          obtain ⟨hb_13, hF⟩ := hF
          refine stB S hK had hP hS (k := 43) rfl hb_13 dX7_layRun_76 (fun M_12 H locs eM_12 hP hS => ?_)
          have hF := hF M_12 eM_12
          refine lv_iinc (v := (x2_7 + 1)) (lv' := [(2, .int (x2_7 + 1)), (0, .ref (ad 32))]) hx hb dX7_layRun_77 hl (k := 1) rfl rfl (by decide) rfl (fun ls hl => ?_)
          refine lv_goto (tgt := 7) hx hb dX7_layRun_80 (by decide) ?_
          exact hJ_7 _ _ hF _ _ _ hP hS (lv_sub hl [1, 0] rfl)
      · have hF := hF.1 c_4
        refine lv_ldc2 (v := 12) hx hb hown (hts (.constantLong RX7 188 (12)) (by decide +kernel)) dX7_layRun_21 ?_
        refine lv_goto (tgt := 36) hx hb dX7_layRun_24 (by decide) ?_
        refine lv_aload_n hx hb dX7_layRun_36 rfl (lv_at hl 0 rfl) ?_
        refine gF S hK hP i7 e_M rfl 24 (by decide) k34 f_M_joins dX7_layRun_37 ?_
        refine lv_iload_n hx hb dX7_layRun_40 rfl (lv_at hl 1 rfl) ?_
        obtain ⟨hb_14, hF⟩ := hF
        refine ldA S hK hP (k := 41) rfl hb_14 dX7_layRun_41 ?_
        refine lv_i2l hx hb dX7_layRun_42 rfl ?_
        refine lv_lmul hx hb dX7_layRun_43 ?_
        obtain ⟨hb_16, hF⟩ := hF
        refine stB S hK had hP hS (k := 42) rfl hb_16 dX7_layRun_44 (fun M_15 H locs eM_15 hP hS => ?_)
        have hF := hF M_15 eM_15
        refine lv_aload_n hx hb dX7_layRun_45 rfl (lv_at hl 0 rfl) ?_
        refine gF S hK hP i7 e_M rfl 26 (by decide) k41 f_M_downs dX7_layRun_46 ?_
        refine lv_iload_n hx hb dX7_layRun_49 rfl (lv_at hl 1 rfl) ?_
        refine lv_iload_n hx hb dX7_layRun_50 rfl (lv_at hl 1 rfl) ?_
        refine lv_if_ne (tgt := 58) hx hb dX7_layRun_51 (by decide) (fun c_17 => ?_) (fun c_17 => ?_)
        · have hF := hF.2 c_17
          refine lv_aload_n hx hb dX7_layRun_58 rfl (lv_at hl 0 rfl) ?_
          refine gF S hK hP i7 e_M rfl 8 (by decide) k146 f_M_served dX7_layRun_59 ?_
          refine lv_i2l hx hb dX7_layRun_62 rfl ?_
          refine lv_bipush (v := 12) hx hb dX7_layRun_63 (by decide) ?_
          refine lv_aload_n hx hb dX7_layRun_65 rfl (lv_at hl 0 rfl) ?_
          refine gF S hK hP i7 e_M rfl 24 (by decide) k34 f_M_joins dX7_layRun_66 ?_
          refine lv_iload_n hx hb dX7_layRun_69 rfl (lv_at hl 1 rfl) ?_
          refine lv_iconst (v := 1) hx hb dX7_layRun_70 (by decide) ?_
          refine lv_isub hx hb dX7_layRun_71 ?_
          obtain ⟨hb_18, hF⟩ := hF
          refine ldA S hK hP (k := 41) rfl hb_18 dX7_layRun_72 ?_
          refine lv_isub hx hb dX7_layRun_73 ?_
          refine lv_i2l hx hb dX7_layRun_74 rfl ?_
          refine lv_lmul hx hb dX7_layRun_75 ?_
          obtain ⟨hb_20, hF⟩ := hF
          refine stB S hK had hP hS (k := 43) rfl hb_20 dX7_layRun_76 (fun M_19 H locs eM_19 hP hS => ?_)
          have hF := hF M_19 eM_19
          refine lv_iinc (v := (x2_7 + 1)) (lv' := [(2, .int (x2_7 + 1)), (0, .ref (ad 32))]) hx hb dX7_layRun_77 hl (k := 1) rfl rfl (by decide) rfl (fun ls hl => ?_)
          refine lv_goto (tgt := 7) hx hb dX7_layRun_80 (by decide) ?_
          exact hJ_7 _ _ hF _ _ _ hP hS (lv_sub hl [1, 0] rfl)
        · have hF := hF.1 c_17
          refine lv_lconst (v := 0) hx hb dX7_layRun_54 (by decide) ?_
          refine lv_goto (tgt := 76) hx hb dX7_layRun_55 (by decide) ?_
          obtain ⟨hb_22, hF⟩ := hF
          refine stB S hK had hP hS (k := 43) rfl hb_22 dX7_layRun_76 (fun M_21 H locs eM_21 hP hS => ?_)
          have hF := hF M_21 eM_21
          refine lv_iinc (v := (x2_7 + 1)) (lv' := [(2, .int (x2_7 + 1)), (0, .ref (ad 32))]) hx hb dX7_layRun_77 hl (k := 1) rfl rfl (by decide) rfl (fun ls hl => ?_)
          refine lv_goto (tgt := 7) hx hb dX7_layRun_80 (by decide) ?_
          exact hJ_7 _ _ hF _ _ _ hP hS (lv_sub hl [1, 0] rfl)
  exact key_7 _ _ hF _ _ _ hP hS (lv_sub hl [1, 0] rfl)
def bX7_allWeights_4 (Q : Int64 → Mm → Prop) (J_4 : Int64 → Int32 → Mm → Prop) (x1_4 : Int64) (x3_4 : Int32) (m4 : Mm) : Prop := (((5 : Int32) < x3_4 → (Q x1_4 m4)) ∧ (¬ (5 : Int32) < x3_4 → (vp_in x3_4 8 ∧ (J_4 (x1_4 + (gb m4 44 x3_4.toNatClampNeg)) (x3_4 + 1) m4))))
def lX7_allWeights_4 (Q : Int64 → Mm → Prop) (x1_4 : Int64) (x3_4 : Int32) (m4 : Mm) : Prop := ∀ I : Int64 → Int32 → Mm → Prop, (∀ J : Int64 → Int32 → Mm → Prop, (∀ (x1_4 : Int64) (x3_4 : Int32) (m : Mm), J x1_4 x3_4 m → I x1_4 x3_4 m) → ∀ (x1_4 : Int64) (x3_4 : Int32) (m : Mm), bX7_allWeights_4 Q J x1_4 x3_4 m → I x1_4 x3_4 m) → I x1_4 x3_4 m4
theorem lX7_allWeights_4_mk (Q : Int64 → Mm → Prop) (x1_4 : Int64) (x3_4 : Int32) (m4 : Mm) (h : bX7_allWeights_4 Q (lX7_allWeights_4 Q) x1_4 x3_4 m4) : lX7_allWeights_4 Q x1_4 x3_4 m4 := fun I hI => hI (lX7_allWeights_4 Q) (fun _ _ _ q => q I hI) _ _ _ h
def wX7_allWeights (Q : Int64 → Mm → Prop) (M : Mm) : Prop := (lX7_allWeights_4 Q (0 : Int64) (0 : Int32) M)
set_option maxHeartbeats 4000000 in
set_option maxRecDepth 100000 in
theorem ctX7_allWeights (l : Launch) (D : va_G) (cI cJ : ClassId) (ad : Nat → Nat) (had : inj54 ad)  (Q : Int64 → Mm → Prop) (M : Mm) (hF : wX7_allWeights Q M) : Met l yX7_allWeights wsX7_allWeights ({ frames := 0, cells := 0, slots := 0, locals := 0 } : Room) (PcW D cI cJ ad M [.ref (ad 32)]) (QlW D cI cJ ad Q) 0 0 (Fr ad) := by
  refine entW (y := yX7_allWeights) (ret := some .long) (maxL := 4) (plainFor_of_name (by decide)) rfl (Nat.le_of_ble_eq_true rfl) ?_
  intro p e s m args below meth c ls S hK hr hlocks hP hS hl
  have hx := S.1
  have hb := S.2.1
  have hown := S.2.2.2.1
  have hts := S.2.2.2.2
  have i7 : ∀ w ∈ wsX70, w ∈ wsX7_allWeights := by decide +kernel
  have k44 := hts (.fieldLink RX7 44 "RopeLineModel" "weights" "[J") (by decide +kernel)
  have hl : lv_has ls 4 [(0, .ref (ad 32))] := hl
  unfold wX7_allWeights at hF
  refine lv_lconst (v := 0) hx hb dX7_allWeights_0 (by decide) ?_
  refine lv_lstore_n (lv' := [(1, .long (0 : Int64)), (0, .ref (ad 32))]) hx hb dX7_allWeights_1 rfl hl (by decide) rfl (fun ls hl => ?_)
  refine lv_iconst (v := 0) hx hb dX7_allWeights_2 (by decide) ?_
  refine lv_istore_n (lv' := [(3, .int (0 : Int32)), (1, .long (0 : Int64)), (0, .ref (ad 32))]) hx hb dX7_allWeights_3 rfl hl (by decide) rfl (fun ls hl => ?_)
  have key_4 : ∀ (x1_4 : Int64) (x3_4 : Int32) (m4 : Mm), (lX7_allWeights_4 Q x1_4 x3_4 m4) → Wc p l e ({ frames := 0, cells := 0, slots := 0, locals := 0 } : Room) s m args below meth c D cI cJ ad (MQ below (QlW D cI cJ ad Q) args s 0 0 (Fr ad)) 4 4 [(0, .ref (ad 32)), (1, .long x1_4), (3, .int x3_4)] m4 := by
    intro x1_4 x3_4 m4 hL
    refine hL (fun x1_4 x3_4 m4 => Wc p l e ({ frames := 0, cells := 0, slots := 0, locals := 0 } : Room) s m args below meth c D cI cJ ad (MQ below (QlW D cI cJ ad Q) args s 0 0 (Fr ad)) 4 4 [(0, .ref (ad 32)), (1, .long x1_4), (3, .int x3_4)] m4) ?_
    intro J_4 hJ_4 x1_4 x3_4 m4 hF H locs ls hP hS hl
    unfold bX7_allWeights_4 at hF
    refine lv_iload_n hx hb dX7_allWeights_4 rfl (lv_at hl 2 rfl) ?_
    refine lv_iconst (v := 5) hx hb dX7_allWeights_5 (by decide) ?_
    refine lv_icmp_gt (tgt := 24) hx hb dX7_allWeights_6 (by decide) (fun c_1 => ?_) (fun c_1 => ?_)
    · have hF := hF.1 c_1
      refine lv_lload_n hx hb dX7_allWeights_24 rfl (lv_at hl 1 rfl) ?_
      exact retL S hr hlocks hP hS hF dX7_allWeights_25
    · have hF := hF.2 c_1
      refine lv_lload_n hx hb dX7_allWeights_9 rfl (lv_at hl 1 rfl) ?_
      refine lv_aload_n hx hb dX7_allWeights_10 rfl (lv_at hl 0 rfl) ?_
      refine gF S hK hP i7 e_M rfl 27 (by decide) k44 f_M_weights dX7_allWeights_11 ?_
      refine lv_iload_n hx hb dX7_allWeights_14 rfl (lv_at hl 2 rfl) ?_
      obtain ⟨hb_2, hF⟩ := hF
      refine ldB S hK hP (k := 44) rfl hb_2 dX7_allWeights_15 ?_
      refine lv_ladd hx hb dX7_allWeights_16 ?_
      refine lv_lstore_n (lv' := [(1, .long (x1_4 + (gb m4 44 x3_4.toNatClampNeg))), (0, .ref (ad 32)), (3, .int x3_4)]) hx hb dX7_allWeights_17 rfl hl (by decide) rfl (fun ls hl => ?_)
      refine lv_iinc (v := (x3_4 + 1)) (lv' := [(3, .int (x3_4 + 1)), (1, .long (x1_4 + (gb m4 44 x3_4.toNatClampNeg))), (0, .ref (ad 32))]) hx hb dX7_allWeights_18 hl (k := 2) rfl rfl (by decide) rfl (fun ls hl => ?_)
      refine lv_goto (tgt := 4) hx hb dX7_allWeights_21 (by decide) ?_
      exact hJ_4 _ _ _ hF _ _ _ hP hS (lv_sub hl [2, 1, 0] rfl)
  exact key_4 _ _ _ hF _ _ _ hP hS (lv_sub hl [2, 1, 0] rfl)
def bX7_meanWeights_4 (Q : Int64 → Mm → Prop) (J_4 : Int64 → Int32 → Mm → Prop) (x1_4 : Int64) (x3_4 : Int32) (m4 : Mm) : Prop := (((5 : Int32) < x3_4 → (Q x1_4 m4)) ∧ (¬ (5 : Int32) < x3_4 → (vp_in x3_4 8 ∧ (J_4 (x1_4 + ((x3_4.toInt64) * (gb m4 44 x3_4.toNatClampNeg))) (x3_4 + 1) m4))))
def lX7_meanWeights_4 (Q : Int64 → Mm → Prop) (x1_4 : Int64) (x3_4 : Int32) (m4 : Mm) : Prop := ∀ I : Int64 → Int32 → Mm → Prop, (∀ J : Int64 → Int32 → Mm → Prop, (∀ (x1_4 : Int64) (x3_4 : Int32) (m : Mm), J x1_4 x3_4 m → I x1_4 x3_4 m) → ∀ (x1_4 : Int64) (x3_4 : Int32) (m : Mm), bX7_meanWeights_4 Q J x1_4 x3_4 m → I x1_4 x3_4 m) → I x1_4 x3_4 m4
theorem lX7_meanWeights_4_mk (Q : Int64 → Mm → Prop) (x1_4 : Int64) (x3_4 : Int32) (m4 : Mm) (h : bX7_meanWeights_4 Q (lX7_meanWeights_4 Q) x1_4 x3_4 m4) : lX7_meanWeights_4 Q x1_4 x3_4 m4 := fun I hI => hI (lX7_meanWeights_4 Q) (fun _ _ _ q => q I hI) _ _ _ h
def wX7_meanWeights (Q : Int64 → Mm → Prop) (M : Mm) : Prop := (lX7_meanWeights_4 Q (0 : Int64) (0 : Int32) M)
set_option maxHeartbeats 4000000 in
set_option maxRecDepth 100000 in
theorem ctX7_meanWeights (l : Launch) (D : va_G) (cI cJ : ClassId) (ad : Nat → Nat) (had : inj54 ad)  (Q : Int64 → Mm → Prop) (M : Mm) (hF : wX7_meanWeights Q M) : Met l yX7_meanWeights wsX7_meanWeights ({ frames := 0, cells := 0, slots := 0, locals := 0 } : Room) (PcW D cI cJ ad M [.ref (ad 32)]) (QlW D cI cJ ad Q) 0 0 (Fr ad) := by
  refine entW (y := yX7_meanWeights) (ret := some .long) (maxL := 4) (plainFor_of_name (by decide)) rfl (Nat.le_of_ble_eq_true rfl) ?_
  intro p e s m args below meth c ls S hK hr hlocks hP hS hl
  have hx := S.1
  have hb := S.2.1
  have hown := S.2.2.2.1
  have hts := S.2.2.2.2
  have i7 : ∀ w ∈ wsX70, w ∈ wsX7_meanWeights := by decide +kernel
  have k44 := hts (.fieldLink RX7 44 "RopeLineModel" "weights" "[J") (by decide +kernel)
  have hl : lv_has ls 4 [(0, .ref (ad 32))] := hl
  unfold wX7_meanWeights at hF
  refine lv_lconst (v := 0) hx hb dX7_meanWeights_0 (by decide) ?_
  refine lv_lstore_n (lv' := [(1, .long (0 : Int64)), (0, .ref (ad 32))]) hx hb dX7_meanWeights_1 rfl hl (by decide) rfl (fun ls hl => ?_)
  refine lv_iconst (v := 0) hx hb dX7_meanWeights_2 (by decide) ?_
  refine lv_istore_n (lv' := [(3, .int (0 : Int32)), (1, .long (0 : Int64)), (0, .ref (ad 32))]) hx hb dX7_meanWeights_3 rfl hl (by decide) rfl (fun ls hl => ?_)
  have key_4 : ∀ (x1_4 : Int64) (x3_4 : Int32) (m4 : Mm), (lX7_meanWeights_4 Q x1_4 x3_4 m4) → Wc p l e ({ frames := 0, cells := 0, slots := 0, locals := 0 } : Room) s m args below meth c D cI cJ ad (MQ below (QlW D cI cJ ad Q) args s 0 0 (Fr ad)) 4 4 [(0, .ref (ad 32)), (1, .long x1_4), (3, .int x3_4)] m4 := by
    intro x1_4 x3_4 m4 hL
    refine hL (fun x1_4 x3_4 m4 => Wc p l e ({ frames := 0, cells := 0, slots := 0, locals := 0 } : Room) s m args below meth c D cI cJ ad (MQ below (QlW D cI cJ ad Q) args s 0 0 (Fr ad)) 4 4 [(0, .ref (ad 32)), (1, .long x1_4), (3, .int x3_4)] m4) ?_
    intro J_4 hJ_4 x1_4 x3_4 m4 hF H locs ls hP hS hl
    unfold bX7_meanWeights_4 at hF
    refine lv_iload_n hx hb dX7_meanWeights_4 rfl (lv_at hl 2 rfl) ?_
    refine lv_iconst (v := 5) hx hb dX7_meanWeights_5 (by decide) ?_
    refine lv_icmp_gt (tgt := 27) hx hb dX7_meanWeights_6 (by decide) (fun c_1 => ?_) (fun c_1 => ?_)
    · have hF := hF.1 c_1
      refine lv_lload_n hx hb dX7_meanWeights_27 rfl (lv_at hl 1 rfl) ?_
      exact retL S hr hlocks hP hS hF dX7_meanWeights_28
    · have hF := hF.2 c_1
      refine lv_lload_n hx hb dX7_meanWeights_9 rfl (lv_at hl 1 rfl) ?_
      refine lv_iload_n hx hb dX7_meanWeights_10 rfl (lv_at hl 2 rfl) ?_
      refine lv_i2l hx hb dX7_meanWeights_11 rfl ?_
      refine lv_aload_n hx hb dX7_meanWeights_12 rfl (lv_at hl 0 rfl) ?_
      refine gF S hK hP i7 e_M rfl 27 (by decide) k44 f_M_weights dX7_meanWeights_13 ?_
      refine lv_iload_n hx hb dX7_meanWeights_16 rfl (lv_at hl 2 rfl) ?_
      obtain ⟨hb_2, hF⟩ := hF
      refine ldB S hK hP (k := 44) rfl hb_2 dX7_meanWeights_17 ?_
      refine lv_lmul hx hb dX7_meanWeights_18 ?_
      refine lv_ladd hx hb dX7_meanWeights_19 ?_
      refine lv_lstore_n (lv' := [(1, .long (x1_4 + ((x3_4.toInt64) * (gb m4 44 x3_4.toNatClampNeg)))), (0, .ref (ad 32)), (3, .int x3_4)]) hx hb dX7_meanWeights_20 rfl hl (by decide) rfl (fun ls hl => ?_)
      refine lv_iinc (v := (x3_4 + 1)) (lv' := [(3, .int (x3_4 + 1)), (1, .long (x1_4 + ((x3_4.toInt64) * (gb m4 44 x3_4.toNatClampNeg)))), (0, .ref (ad 32))]) hx hb dX7_meanWeights_21 hl (k := 2) rfl rfl (by decide) rfl (fun ls hl => ?_)
      refine lv_goto (tgt := 4) hx hb dX7_meanWeights_24 (by decide) ?_
      exact hJ_4 _ _ _ hF _ _ _ hP hS (lv_sub hl [2, 1, 0] rfl)
  exact key_4 _ _ _ hF _ _ _ hP hS (lv_sub hl [2, 1, 0] rfl)
def wX7_metAt (a1 : Int32) (Q : Int64 → Mm → Prop) (M : Mm) : Prop := (vp_in a1 8 ∧ ((a1 = 0 → (vp_in (a1 + (1 : Int32)) 8 ∧ (Q (((gb M 44 a1.toNatClampNeg) * ((12 : Int32).toInt64)) + ((gb M 44 (a1 + (1 : Int32)).toNatClampNeg) * ((gi M 29).toInt64))) M))) ∧ (¬ a1 = 0 → (vp_in (a1 + (1 : Int32)) 8 ∧ (Q (((gb M 44 a1.toNatClampNeg) * (((12 : Int32) - (gi M 29)).toInt64)) + ((gb M 44 (a1 + (1 : Int32)).toNatClampNeg) * ((gi M 29).toInt64))) M)))))
set_option maxHeartbeats 4000000 in
set_option maxRecDepth 100000 in
theorem ctX7_metAt (l : Launch) (D : va_G) (cI cJ : ClassId) (ad : Nat → Nat) (had : inj54 ad) (a1 : Int32) (Q : Int64 → Mm → Prop) (M : Mm) (hF : wX7_metAt a1 Q M) : Met l yX7_metAt wsX7_metAt ({ frames := 0, cells := 0, slots := 0, locals := 0 } : Room) (PcW D cI cJ ad M [.ref (ad 32), .int a1]) (QlW D cI cJ ad Q) 0 0 (Fr ad) := by
  refine entW (y := yX7_metAt) (ret := some .long) (maxL := 2) (plainFor_of_name (by decide)) rfl (Nat.le_of_ble_eq_true rfl) ?_
  intro p e s m args below meth c ls S hK hr hlocks hP hS hl
  have hx := S.1
  have hb := S.2.1
  have hown := S.2.2.2.1
  have hts := S.2.2.2.2
  have i7 : ∀ w ∈ wsX70, w ∈ wsX7_metAt := by decide +kernel
  have k44 := hts (.fieldLink RX7 44 "RopeLineModel" "weights" "[J") (by decide +kernel)
  have k146 := hts (.fieldLink RX7 146 "RopeLineModel" "served" "I") (by decide +kernel)
  have hl : lv_has ls 2 [(0, .ref (ad 32)), (1, .int a1)] := hl
  unfold wX7_metAt at hF
  refine lv_aload_n hx hb dX7_metAt_0 rfl (lv_at hl 0 rfl) ?_
  refine gF S hK hP i7 e_M rfl 27 (by decide) k44 f_M_weights dX7_metAt_1 ?_
  refine lv_iload_n hx hb dX7_metAt_4 rfl (lv_at hl 1 rfl) ?_
  obtain ⟨hb_1, hF⟩ := hF
  refine ldB S hK hP (k := 44) rfl hb_1 dX7_metAt_5 ?_
  refine lv_iload_n hx hb dX7_metAt_6 rfl (lv_at hl 1 rfl) ?_
  refine lv_if_ne (tgt := 15) hx hb dX7_metAt_7 (by decide) (fun c_2 => ?_) (fun c_2 => ?_)
  · have hF := hF.2 c_2
    refine lv_bipush (v := 12) hx hb dX7_metAt_15 (by decide) ?_
    refine lv_aload_n hx hb dX7_metAt_17 rfl (lv_at hl 0 rfl) ?_
    refine gF S hK hP i7 e_M rfl 8 (by decide) k146 f_M_served dX7_metAt_18 ?_
    refine lv_isub hx hb dX7_metAt_21 ?_
    refine lv_i2l hx hb dX7_metAt_22 rfl ?_
    refine lv_lmul hx hb dX7_metAt_23 ?_
    refine lv_aload_n hx hb dX7_metAt_24 rfl (lv_at hl 0 rfl) ?_
    refine gF S hK hP i7 e_M rfl 27 (by decide) k44 f_M_weights dX7_metAt_25 ?_
    refine lv_iload_n hx hb dX7_metAt_28 rfl (lv_at hl 1 rfl) ?_
    refine lv_iconst (v := 1) hx hb dX7_metAt_29 (by decide) ?_
    refine lv_iadd hx hb dX7_metAt_30 ?_
    obtain ⟨hb_3, hF⟩ := hF
    refine ldB S hK hP (k := 44) rfl hb_3 dX7_metAt_31 ?_
    refine lv_aload_n hx hb dX7_metAt_32 rfl (lv_at hl 0 rfl) ?_
    refine gF S hK hP i7 e_M rfl 8 (by decide) k146 f_M_served dX7_metAt_33 ?_
    refine lv_i2l hx hb dX7_metAt_36 rfl ?_
    refine lv_lmul hx hb dX7_metAt_37 ?_
    refine lv_ladd hx hb dX7_metAt_38 ?_
    exact retL S hr hlocks hP hS hF dX7_metAt_39
  · have hF := hF.1 c_2
    refine lv_bipush (v := 12) hx hb dX7_metAt_10 (by decide) ?_
    refine lv_goto (tgt := 22) hx hb dX7_metAt_12 (by decide) ?_
    refine lv_i2l hx hb dX7_metAt_22 rfl ?_
    refine lv_lmul hx hb dX7_metAt_23 ?_
    refine lv_aload_n hx hb dX7_metAt_24 rfl (lv_at hl 0 rfl) ?_
    refine gF S hK hP i7 e_M rfl 27 (by decide) k44 f_M_weights dX7_metAt_25 ?_
    refine lv_iload_n hx hb dX7_metAt_28 rfl (lv_at hl 1 rfl) ?_
    refine lv_iconst (v := 1) hx hb dX7_metAt_29 (by decide) ?_
    refine lv_iadd hx hb dX7_metAt_30 ?_
    obtain ⟨hb_4, hF⟩ := hF
    refine ldB S hK hP (k := 44) rfl hb_4 dX7_metAt_31 ?_
    refine lv_aload_n hx hb dX7_metAt_32 rfl (lv_at hl 0 rfl) ?_
    refine gF S hK hP i7 e_M rfl 8 (by decide) k146 f_M_served dX7_metAt_33 ?_
    refine lv_i2l hx hb dX7_metAt_36 rfl ?_
    refine lv_lmul hx hb dX7_metAt_37 ?_
    refine lv_ladd hx hb dX7_metAt_38 ?_
    exact retL S hr hlocks hP hS hF dX7_metAt_39
def wX7_often (a1 : Int32) (a2 : Int32) (Q : Int64 → Mm → Prop) (M : Mm) : Prop := (wX7_within a1 (0 : Int32) (5 : Int32) (fun r_1 M_1 => ((r_1 = 0 → (Q (-9223372036854775808 : Int64) M_1)) ∧ (¬ r_1 = 0 → (wX7_isWhich a2 (fun r_3 M_3 => ((r_3 = 0 → (Q (-9223372036854775808 : Int64) M_3)) ∧ (¬ r_3 = 0 → (((gi M_3 28) = 0 → (Q (-9223372036854775808 : Int64) M_3)) ∧ (¬ (gi M_3 28) = 0 → (wX7_layRun 38 (fun M_6 => (vp_in a1 8 ∧ (wX7_allWeights (fun r_8 M_8 => (wX7_share (gb M_6 44 a1.toNatClampNeg) r_8 (fun M_9 => (wX7_told a2 (fun r_10 M_10 => (Q r_10 M_10)) M_9)) M_8)) M_6))) M_3)))))) M_1)))) M)
set_option maxHeartbeats 4000000 in
set_option maxRecDepth 100000 in
theorem ctX7_often (l : Launch) (D : va_G) (cI cJ : ClassId) (ad : Nat → Nat) (had : inj54 ad) (a1 : Int32) (a2 : Int32) (Q : Int64 → Mm → Prop) (M : Mm) (hF : wX7_often a1 a2 Q M) : Met l yX7_often wsX7_often ({ frames := 2, cells := 0, slots := 0, locals := 55 } : Room) (PcW D cI cJ ad M [.ref (ad 32), .int a1, .int a2]) (QlW D cI cJ ad Q) 0 0 (Fr ad) := by
  refine entW (y := yX7_often) (ret := some .long) (maxL := 3) (plainFor_of_name (by decide)) rfl (Nat.le_of_ble_eq_true rfl) ?_
  intro p e s m args below meth c ls S hK hr hlocks hP hS hl
  have hx := S.1
  have hb := S.2.1
  have hown := S.2.2.2.1
  have hts := S.2.2.2.2
  have i7 : ∀ w ∈ wsX70, w ∈ wsX7_often := by decide +kernel
  have k142 := hts (.fieldLink RX7 142 "RopeLineModel" "isPlace" "Z") (by decide +kernel)
  have k25 := hts (.fieldLink RX7 25 "RopeLineModel" "bars" "[I") (by decide +kernel)
  have k44 := hts (.fieldLink RX7 44 "RopeLineModel" "weights" "[J") (by decide +kernel)
  have hl : lv_has ls 3 [(0, .ref (ad 32)), (1, .int a1), (2, .int a2)] := hl
  unfold wX7_often at hF
  refine lv_iload_n hx hb dX7_often_0 rfl (lv_at hl 1 rfl) ?_
  refine lv_iconst (v := 0) hx hb dX7_often_1 (by decide) ?_
  refine lv_iconst (v := 5) hx hb dX7_often_2 (by decide) ?_
  refine goZ (rS (rest := []) S hK hP (ctX7_within l D cI cJ ad had a1 (0 : Int32) (5 : Int32) _ _ hF) (va_cwS 3 hts gX7_often_X7_within rfl rfl rfl hdS_X7_within ⟨Nat.le_of_ble_eq_true rfl, Nat.le_of_ble_eq_true rfl⟩) rfl hl.1 rfl (Nat.le_of_ble_eq_true rfl) dX7_often_3 ⟨Nat.zero_le _, Nat.zero_le _⟩) hS (fun _ h => h) (fun r_1 M_1 H locs hP hS hz_r_1 hF => ?_)
  refine lv_if_eq (tgt := 23) hx hb dX7_often_6 (by decide) (fun c_2 => ?_) (fun c_2 => ?_)
  · have hF := hF.1 c_2
    refine lv_ldc2 (v := -9223372036854775808) hx hb hown (hts (.constantLong RX7 78 (-9223372036854775808)) (by decide +kernel)) dX7_often_23 ?_
    exact retL S hr hlocks hP hS hF dX7_often_26
  · have hF := hF.2 c_2
    refine lv_iload_n hx hb dX7_often_9 rfl (lv_at hl 2 rfl) ?_
    refine goZ (rS (rest := []) S hK hP (ctX7_isWhich l D cI cJ ad had a2 _ _ hF) (va_cwS 1 hts gX7_often_X7_isWhich rfl rfl rfl hdS_X7_isWhich ⟨Nat.le_of_ble_eq_true rfl, Nat.le_of_ble_eq_true rfl⟩) rfl hl.1 rfl (Nat.le_of_ble_eq_true rfl) dX7_often_10 ⟨Nat.zero_le _, Nat.zero_le _⟩) hS (fun _ h => h) (fun r_3 M_3 H locs hP hS hz_r_3 hF => ?_)
    refine lv_if_eq (tgt := 23) hx hb dX7_often_13 (by decide) (fun c_4 => ?_) (fun c_4 => ?_)
    · have hF := hF.1 c_4
      refine lv_ldc2 (v := -9223372036854775808) hx hb hown (hts (.constantLong RX7 78 (-9223372036854775808)) (by decide +kernel)) dX7_often_23 ?_
      exact retL S hr hlocks hP hS hF dX7_often_26
    · have hF := hF.2 c_4
      refine lv_aload_n hx hb dX7_often_16 rfl (lv_at hl 0 rfl) ?_
      refine gF S hK hP i7 e_M rfl 7 (by decide) k142 f_M_isPlace dX7_often_17 ?_
      refine lv_if_ne (tgt := 27) hx hb dX7_often_20 (by decide) (fun c_5 => ?_) (fun c_5 => ?_)
      · have hF := hF.2 c_5
        refine lv_aload_n hx hb dX7_often_27 rfl (lv_at hl 0 rfl) ?_
        refine lv_aload_n hx hb dX7_often_28 rfl (lv_at hl 0 rfl) ?_
        refine gF S hK hP i7 e_M rfl 13 (by decide) k25 f_M_bars dX7_often_29 ?_
        refine goV (rV (rest := []) S hK hP (ctX7_layRun l D cI cJ ad had 38 rfl _ _ hF) (cwV 1 hts gX7_often_X7_layRun rfl rfl rfl hdV_X7_layRun ⟨Nat.le_of_ble_eq_true rfl, Nat.le_of_ble_eq_true rfl⟩) e_M rfl rfl hl.1 rfl (Nat.le_of_ble_eq_true rfl) dX7_often_32 ⟨Nat.zero_le _, Nat.zero_le _⟩) hS (fun _ h => h) (fun M_6 H locs hP hS hF => ?_)
        refine lv_aload_n hx hb dX7_often_35 rfl (lv_at hl 0 rfl) ?_
        refine lv_aload_n hx hb dX7_often_36 rfl (lv_at hl 0 rfl) ?_
        refine gF S hK hP i7 e_M rfl 27 (by decide) k44 f_M_weights dX7_often_37 ?_
        refine lv_iload_n hx hb dX7_often_40 rfl (lv_at hl 1 rfl) ?_
        obtain ⟨hb_7, hF⟩ := hF
        refine ldB S hK hP (k := 44) rfl hb_7 dX7_often_41 ?_
        refine lv_aload_n hx hb dX7_often_42 rfl (lv_at hl 0 rfl) ?_
        refine goL (rV (rest := [.long (gb M_6 44 a1.toNatClampNeg), .ref (ad 32)]) S hK hP (ctX7_allWeights l D cI cJ ad had  _ _ hF) (cwV 0 hts gX7_often_X7_allWeights rfl rfl rfl hdV_X7_allWeights ⟨Nat.le_of_ble_eq_true rfl, Nat.le_of_ble_eq_true rfl⟩) e_M rfl rfl hl.1 rfl (Nat.le_of_ble_eq_true rfl) dX7_often_43 ⟨Nat.zero_le _, Nat.zero_le _⟩) hS (fun _ h => h) (fun r_8 M_8 H locs hP hS hF => ?_)
        refine goV (rV (rest := []) S hK hP (ctX7_share l D cI cJ ad had (gb M_6 44 a1.toNatClampNeg) r_8 _ _ hF) (cwV 2 hts gX7_often_X7_share rfl rfl rfl hdV_X7_share ⟨Nat.le_of_ble_eq_true rfl, Nat.le_of_ble_eq_true rfl⟩) e_M rfl rfl hl.1 rfl (Nat.le_of_ble_eq_true rfl) dX7_often_46 ⟨Nat.zero_le _, Nat.zero_le _⟩) hS (fun _ h => h) (fun M_9 H locs hP hS hF => ?_)
        refine lv_aload_n hx hb dX7_often_49 rfl (lv_at hl 0 rfl) ?_
        refine lv_iload_n hx hb dX7_often_50 rfl (lv_at hl 2 rfl) ?_
        refine goL (rV (rest := []) S hK hP (ctX7_told l D cI cJ ad had a2 _ _ hF) (cwV 1 hts gX7_often_X7_told rfl rfl rfl hdV_X7_told ⟨Nat.le_of_ble_eq_true rfl, Nat.le_of_ble_eq_true rfl⟩) e_M rfl rfl hl.1 rfl (Nat.le_of_ble_eq_true rfl) dX7_often_51 ⟨Nat.zero_le _, Nat.zero_le _⟩) hS (fun _ h => h) (fun r_10 M_10 H locs hP hS hF => ?_)
        exact retL S hr hlocks hP hS hF dX7_often_54
      · have hF := hF.1 c_5
        refine lv_ldc2 (v := -9223372036854775808) hx hb hown (hts (.constantLong RX7 78 (-9223372036854775808)) (by decide +kernel)) dX7_often_23 ?_
        exact retL S hr hlocks hP hS hF dX7_often_26
def wX7_mean (a1 : Int32) (Q : Int64 → Mm → Prop) (M : Mm) : Prop := (wX7_isWhich a1 (fun r_1 M_1 => ((r_1 = 0 → (Q (-9223372036854775808 : Int64) M_1)) ∧ (¬ r_1 = 0 → (((gi M_1 28) = 0 → (Q (-9223372036854775808 : Int64) M_1)) ∧ (¬ (gi M_1 28) = 0 → (wX7_layRun 38 (fun M_4 => (wX7_meanWeights (fun r_5 M_5 => (wX7_allWeights (fun r_6 M_6 => (wX7_share r_5 r_6 (fun M_7 => (wX7_told a1 (fun r_8 M_8 => (Q r_8 M_8)) M_7)) M_6)) M_5)) M_4)) M_1)))))) M)
set_option maxHeartbeats 4000000 in
set_option maxRecDepth 100000 in
theorem ctX7_mean (l : Launch) (D : va_G) (cI cJ : ClassId) (ad : Nat → Nat) (had : inj54 ad) (a1 : Int32) (Q : Int64 → Mm → Prop) (M : Mm) (hF : wX7_mean a1 Q M) : Met l yX7_mean wsX7_mean ({ frames := 2, cells := 0, slots := 0, locals := 55 } : Room) (PcW D cI cJ ad M [.ref (ad 32), .int a1]) (QlW D cI cJ ad Q) 0 0 (Fr ad) := by
  refine entW (y := yX7_mean) (ret := some .long) (maxL := 2) (plainFor_of_name (by decide)) rfl (Nat.le_of_ble_eq_true rfl) ?_
  intro p e s m args below meth c ls S hK hr hlocks hP hS hl
  have hx := S.1
  have hb := S.2.1
  have hown := S.2.2.2.1
  have hts := S.2.2.2.2
  have i7 : ∀ w ∈ wsX70, w ∈ wsX7_mean := by decide +kernel
  have k142 := hts (.fieldLink RX7 142 "RopeLineModel" "isPlace" "Z") (by decide +kernel)
  have k25 := hts (.fieldLink RX7 25 "RopeLineModel" "bars" "[I") (by decide +kernel)
  have hl : lv_has ls 2 [(0, .ref (ad 32)), (1, .int a1)] := hl
  unfold wX7_mean at hF
  refine lv_iload_n hx hb dX7_mean_0 rfl (lv_at hl 1 rfl) ?_
  refine goZ (rS (rest := []) S hK hP (ctX7_isWhich l D cI cJ ad had a1 _ _ hF) (va_cwS 1 hts gX7_mean_X7_isWhich rfl rfl rfl hdS_X7_isWhich ⟨Nat.le_of_ble_eq_true rfl, Nat.le_of_ble_eq_true rfl⟩) rfl hl.1 rfl (Nat.le_of_ble_eq_true rfl) dX7_mean_1 ⟨Nat.zero_le _, Nat.zero_le _⟩) hS (fun _ h => h) (fun r_1 M_1 H locs hP hS hz_r_1 hF => ?_)
  refine lv_if_eq (tgt := 14) hx hb dX7_mean_4 (by decide) (fun c_2 => ?_) (fun c_2 => ?_)
  · have hF := hF.1 c_2
    refine lv_ldc2 (v := -9223372036854775808) hx hb hown (hts (.constantLong RX7 78 (-9223372036854775808)) (by decide +kernel)) dX7_mean_14 ?_
    exact retL S hr hlocks hP hS hF dX7_mean_17
  · have hF := hF.2 c_2
    refine lv_aload_n hx hb dX7_mean_7 rfl (lv_at hl 0 rfl) ?_
    refine gF S hK hP i7 e_M rfl 7 (by decide) k142 f_M_isPlace dX7_mean_8 ?_
    refine lv_if_ne (tgt := 18) hx hb dX7_mean_11 (by decide) (fun c_3 => ?_) (fun c_3 => ?_)
    · have hF := hF.2 c_3
      refine lv_aload_n hx hb dX7_mean_18 rfl (lv_at hl 0 rfl) ?_
      refine lv_aload_n hx hb dX7_mean_19 rfl (lv_at hl 0 rfl) ?_
      refine gF S hK hP i7 e_M rfl 13 (by decide) k25 f_M_bars dX7_mean_20 ?_
      refine goV (rV (rest := []) S hK hP (ctX7_layRun l D cI cJ ad had 38 rfl _ _ hF) (cwV 1 hts gX7_mean_X7_layRun rfl rfl rfl hdV_X7_layRun ⟨Nat.le_of_ble_eq_true rfl, Nat.le_of_ble_eq_true rfl⟩) e_M rfl rfl hl.1 rfl (Nat.le_of_ble_eq_true rfl) dX7_mean_23 ⟨Nat.zero_le _, Nat.zero_le _⟩) hS (fun _ h => h) (fun M_4 H locs hP hS hF => ?_)
      refine lv_aload_n hx hb dX7_mean_26 rfl (lv_at hl 0 rfl) ?_
      refine lv_aload_n hx hb dX7_mean_27 rfl (lv_at hl 0 rfl) ?_
      refine goL (rV (rest := [.ref (ad 32)]) S hK hP (ctX7_meanWeights l D cI cJ ad had  _ _ hF) (cwV 0 hts gX7_mean_X7_meanWeights rfl rfl rfl hdV_X7_meanWeights ⟨Nat.le_of_ble_eq_true rfl, Nat.le_of_ble_eq_true rfl⟩) e_M rfl rfl hl.1 rfl (Nat.le_of_ble_eq_true rfl) dX7_mean_28 ⟨Nat.zero_le _, Nat.zero_le _⟩) hS (fun _ h => h) (fun r_5 M_5 H locs hP hS hF => ?_)
      refine lv_aload_n hx hb dX7_mean_31 rfl (lv_at hl 0 rfl) ?_
      refine goL (rV (rest := [.long r_5, .ref (ad 32)]) S hK hP (ctX7_allWeights l D cI cJ ad had  _ _ hF) (cwV 0 hts gX7_mean_X7_allWeights rfl rfl rfl hdV_X7_allWeights ⟨Nat.le_of_ble_eq_true rfl, Nat.le_of_ble_eq_true rfl⟩) e_M rfl rfl hl.1 rfl (Nat.le_of_ble_eq_true rfl) dX7_mean_32 ⟨Nat.zero_le _, Nat.zero_le _⟩) hS (fun _ h => h) (fun r_6 M_6 H locs hP hS hF => ?_)
      refine goV (rV (rest := []) S hK hP (ctX7_share l D cI cJ ad had r_5 r_6 _ _ hF) (cwV 2 hts gX7_mean_X7_share rfl rfl rfl hdV_X7_share ⟨Nat.le_of_ble_eq_true rfl, Nat.le_of_ble_eq_true rfl⟩) e_M rfl rfl hl.1 rfl (Nat.le_of_ble_eq_true rfl) dX7_mean_35 ⟨Nat.zero_le _, Nat.zero_le _⟩) hS (fun _ h => h) (fun M_7 H locs hP hS hF => ?_)
      refine lv_aload_n hx hb dX7_mean_38 rfl (lv_at hl 0 rfl) ?_
      refine lv_iload_n hx hb dX7_mean_39 rfl (lv_at hl 1 rfl) ?_
      refine goL (rV (rest := []) S hK hP (ctX7_told l D cI cJ ad had a1 _ _ hF) (cwV 1 hts gX7_mean_X7_told rfl rfl rfl hdV_X7_told ⟨Nat.le_of_ble_eq_true rfl, Nat.le_of_ble_eq_true rfl⟩) e_M rfl rfl hl.1 rfl (Nat.le_of_ble_eq_true rfl) dX7_mean_40 ⟨Nat.zero_le _, Nat.zero_le _⟩) hS (fun _ h => h) (fun r_8 M_8 H locs hP hS hF => ?_)
      exact retL S hr hlocks hP hS hF dX7_mean_43
    · have hF := hF.1 c_3
      refine lv_ldc2 (v := -9223372036854775808) hx hb hown (hts (.constantLong RX7 78 (-9223372036854775808)) (by decide +kernel)) dX7_mean_14 ?_
      exact retL S hr hlocks hP hS hF dX7_mean_17
def bX7_on_37 (a2 : Int32) (Q : Int64 → Mm → Prop) (J_37 : Int64 → Int32 → Mm → Prop) (x3_37 : Int64) (x5_37 : Int32) (m37 : Mm) : Prop := (((5 : Int32) < x5_37 → (wX7_allWeights (fun r_8 M_8 => (wX7_share x3_37 ((12 : Int64) * r_8) (fun M_9 => (wX7_told a2 (fun r_10 M_10 => (Q r_10 M_10)) M_9)) M_8)) m37)) ∧ (¬ (5 : Int32) < x5_37 → (wX7_metAt x5_37 (fun r_11 M_11 => (J_37 (x3_37 + r_11) (x5_37 + 1) M_11)) m37)))
def lX7_on_37 (a2 : Int32) (Q : Int64 → Mm → Prop) (x3_37 : Int64) (x5_37 : Int32) (m37 : Mm) : Prop := ∀ I : Int64 → Int32 → Mm → Prop, (∀ J : Int64 → Int32 → Mm → Prop, (∀ (x3_37 : Int64) (x5_37 : Int32) (m : Mm), J x3_37 x5_37 m → I x3_37 x5_37 m) → ∀ (x3_37 : Int64) (x5_37 : Int32) (m : Mm), bX7_on_37 a2 Q J x3_37 x5_37 m → I x3_37 x5_37 m) → I x3_37 x5_37 m37
theorem lX7_on_37_mk (a2 : Int32) (Q : Int64 → Mm → Prop) (x3_37 : Int64) (x5_37 : Int32) (m37 : Mm) (h : bX7_on_37 a2 Q (lX7_on_37 a2 Q) x3_37 x5_37 m37) : lX7_on_37 a2 Q x3_37 x5_37 m37 := fun I hI => hI (lX7_on_37 a2 Q) (fun _ _ _ q => q I hI) _ _ _ h
def wX7_on (a1 : Int32) (a2 : Int32) (Q : Int64 → Mm → Prop) (M : Mm) : Prop := (wX7_isSort a1 (fun r_1 M_1 => ((r_1 = 0 → (Q (-9223372036854775808 : Int64) M_1)) ∧ (¬ r_1 = 0 → (wX7_isWhich a2 (fun r_3 M_3 => ((r_3 = 0 → (Q (-9223372036854775808 : Int64) M_3)) ∧ (¬ r_3 = 0 → (wX7_layRun 38 (fun M_5 => (vp_in a1 3 ∧ (lX7_on_37 a2 Q (0 : Int64) (ga M_5 38 a1.toNatClampNeg) M_5))) M_3)))) M_1)))) M)
set_option maxHeartbeats 4000000 in
set_option maxRecDepth 100000 in
theorem ctX7_on (l : Launch) (D : va_G) (cI cJ : ClassId) (ad : Nat → Nat) (had : inj54 ad) (a1 : Int32) (a2 : Int32) (Q : Int64 → Mm → Prop) (M : Mm) (hF : wX7_on a1 a2 Q M) : Met l yX7_on wsX7_on ({ frames := 2, cells := 0, slots := 0, locals := 55 } : Room) (PcW D cI cJ ad M [.ref (ad 32), .int a1, .int a2]) (QlW D cI cJ ad Q) 0 0 (Fr ad) := by
  refine entW (y := yX7_on) (ret := some .long) (maxL := 6) (plainFor_of_name (by decide)) rfl (Nat.le_of_ble_eq_true rfl) ?_
  intro p e s m args below meth c ls S hK hr hlocks hP hS hl
  have hx := S.1
  have hb := S.2.1
  have hown := S.2.2.2.1
  have hts := S.2.2.2.2
  have i7 : ∀ w ∈ wsX70, w ∈ wsX7_on := by decide +kernel
  have k25 := hts (.fieldLink RX7 25 "RopeLineModel" "bars" "[I") (by decide +kernel)
  have hl : lv_has ls 6 [(0, .ref (ad 32)), (1, .int a1), (2, .int a2)] := hl
  unfold wX7_on at hF
  refine lv_aload_n hx hb dX7_on_0 rfl (lv_at hl 0 rfl) ?_
  refine lv_iload_n hx hb dX7_on_1 rfl (lv_at hl 1 rfl) ?_
  refine goZ (rV (rest := []) S hK hP (ctX7_isSort l D cI cJ ad had a1 _ _ hF) (cwV 1 hts gX7_on_X7_isSort rfl rfl rfl hdV_X7_isSort ⟨Nat.le_of_ble_eq_true rfl, Nat.le_of_ble_eq_true rfl⟩) e_M rfl rfl hl.1 rfl (Nat.le_of_ble_eq_true rfl) dX7_on_2 ⟨Nat.zero_le _, Nat.zero_le _⟩) hS (fun _ h => h) (fun r_1 M_1 H locs hP hS hz_r_1 hF => ?_)
  refine lv_if_eq (tgt := 15) hx hb dX7_on_5 (by decide) (fun c_2 => ?_) (fun c_2 => ?_)
  · have hF := hF.1 c_2
    refine lv_ldc2 (v := -9223372036854775808) hx hb hown (hts (.constantLong RX7 78 (-9223372036854775808)) (by decide +kernel)) dX7_on_15 ?_
    exact retL S hr hlocks hP hS hF dX7_on_18
  · have hF := hF.2 c_2
    refine lv_iload_n hx hb dX7_on_8 rfl (lv_at hl 2 rfl) ?_
    refine goZ (rS (rest := []) S hK hP (ctX7_isWhich l D cI cJ ad had a2 _ _ hF) (va_cwS 1 hts gX7_on_X7_isWhich rfl rfl rfl hdS_X7_isWhich ⟨Nat.le_of_ble_eq_true rfl, Nat.le_of_ble_eq_true rfl⟩) rfl hl.1 rfl (Nat.le_of_ble_eq_true rfl) dX7_on_9 ⟨Nat.zero_le _, Nat.zero_le _⟩) hS (fun _ h => h) (fun r_3 M_3 H locs hP hS hz_r_3 hF => ?_)
    refine lv_if_ne (tgt := 19) hx hb dX7_on_12 (by decide) (fun c_4 => ?_) (fun c_4 => ?_)
    · have hF := hF.2 c_4
      refine lv_aload_n hx hb dX7_on_19 rfl (lv_at hl 0 rfl) ?_
      refine lv_aload_n hx hb dX7_on_20 rfl (lv_at hl 0 rfl) ?_
      refine gF S hK hP i7 e_M rfl 13 (by decide) k25 f_M_bars dX7_on_21 ?_
      refine goV (rV (rest := []) S hK hP (ctX7_layRun l D cI cJ ad had 38 rfl _ _ hF) (cwV 1 hts gX7_on_X7_layRun rfl rfl rfl hdV_X7_layRun ⟨Nat.le_of_ble_eq_true rfl, Nat.le_of_ble_eq_true rfl⟩) e_M rfl rfl hl.1 rfl (Nat.le_of_ble_eq_true rfl) dX7_on_24 ⟨Nat.zero_le _, Nat.zero_le _⟩) hS (fun _ h => h) (fun M_5 H locs hP hS hF => ?_)
      refine lv_lconst (v := 0) hx hb dX7_on_27 (by decide) ?_
      refine lv_lstore_n (lv' := [(3, .long (0 : Int64)), (0, .ref (ad 32)), (1, .int a1), (2, .int a2)]) hx hb dX7_on_28 rfl hl (by decide) rfl (fun ls hl => ?_)
      refine lv_aload_n hx hb dX7_on_29 rfl (lv_at hl 1 rfl) ?_
      refine gF S hK hP i7 e_M rfl 13 (by decide) k25 f_M_bars dX7_on_30 ?_
      refine lv_iload_n hx hb dX7_on_33 rfl (lv_at hl 2 rfl) ?_
      obtain ⟨hb_6, hF⟩ := hF
      refine ldA S hK hP (k := 38) rfl hb_6 dX7_on_34 ?_
      refine lv_istore (lv' := [(5, .int (ga M_5 38 a1.toNatClampNeg)), (3, .long (0 : Int64)), (0, .ref (ad 32)), (1, .int a1), (2, .int a2)]) hx hb dX7_on_35 hl (by decide) rfl (fun ls hl => ?_)
      have key_37 : ∀ (x3_37 : Int64) (x5_37 : Int32) (m37 : Mm), (lX7_on_37 a2 Q x3_37 x5_37 m37) → Wc p l e ({ frames := 2, cells := 0, slots := 0, locals := 55 } : Room) s m args below meth c D cI cJ ad (MQ below (QlW D cI cJ ad Q) args s 0 0 (Fr ad)) 6 37 [(0, .ref (ad 32)), (2, .int a2), (3, .long x3_37), (5, .int x5_37)] m37 := by
        intro x3_37 x5_37 m37 hL
        refine hL (fun x3_37 x5_37 m37 => Wc p l e ({ frames := 2, cells := 0, slots := 0, locals := 55 } : Room) s m args below meth c D cI cJ ad (MQ below (QlW D cI cJ ad Q) args s 0 0 (Fr ad)) 6 37 [(0, .ref (ad 32)), (2, .int a2), (3, .long x3_37), (5, .int x5_37)] m37) ?_
        intro J_37 hJ_37 x3_37 x5_37 m37 hF H locs ls hP hS hl
        unfold bX7_on_37 at hF
        refine lv_iload hx hb dX7_on_37 (lv_at hl 3 rfl) ?_
        refine lv_iconst (v := 5) hx hb dX7_on_39 (by decide) ?_
        refine lv_icmp_gt (tgt := 58) hx hb dX7_on_40 (by decide) (fun c_7 => ?_) (fun c_7 => ?_)
        · have hF := hF.1 c_7
          refine lv_aload_n hx hb dX7_on_58 rfl (lv_at hl 0 rfl) ?_
          refine lv_lload_n hx hb dX7_on_59 rfl (lv_at hl 2 rfl) ?_
          refine lv_ldc2 (v := 12) hx hb hown (hts (.constantLong RX7 188 (12)) (by decide +kernel)) dX7_on_60 ?_
          refine lv_aload_n hx hb dX7_on_63 rfl (lv_at hl 0 rfl) ?_
          refine goL (rV (rest := [.long (12 : Int64), .long x3_37, .ref (ad 32)]) S hK hP (ctX7_allWeights l D cI cJ ad had  _ _ hF) (cwV 0 hts gX7_on_X7_allWeights rfl rfl rfl hdV_X7_allWeights ⟨Nat.le_of_ble_eq_true rfl, Nat.le_of_ble_eq_true rfl⟩) e_M rfl rfl hl.1 rfl (Nat.le_of_ble_eq_true rfl) dX7_on_64 ⟨Nat.zero_le _, Nat.zero_le _⟩) hS (fun _ h => h) (fun r_8 M_8 H locs hP hS hF => ?_)
          refine lv_lmul hx hb dX7_on_67 ?_
          refine goV (rV (rest := []) S hK hP (ctX7_share l D cI cJ ad had x3_37 ((12 : Int64) * r_8) _ _ hF) (cwV 2 hts gX7_on_X7_share rfl rfl rfl hdV_X7_share ⟨Nat.le_of_ble_eq_true rfl, Nat.le_of_ble_eq_true rfl⟩) e_M rfl rfl hl.1 rfl (Nat.le_of_ble_eq_true rfl) dX7_on_68 ⟨Nat.zero_le _, Nat.zero_le _⟩) hS (fun _ h => h) (fun M_9 H locs hP hS hF => ?_)
          refine lv_aload_n hx hb dX7_on_71 rfl (lv_at hl 0 rfl) ?_
          refine lv_iload_n hx hb dX7_on_72 rfl (lv_at hl 1 rfl) ?_
          refine goL (rV (rest := []) S hK hP (ctX7_told l D cI cJ ad had a2 _ _ hF) (cwV 1 hts gX7_on_X7_told rfl rfl rfl hdV_X7_told ⟨Nat.le_of_ble_eq_true rfl, Nat.le_of_ble_eq_true rfl⟩) e_M rfl rfl hl.1 rfl (Nat.le_of_ble_eq_true rfl) dX7_on_73 ⟨Nat.zero_le _, Nat.zero_le _⟩) hS (fun _ h => h) (fun r_10 M_10 H locs hP hS hF => ?_)
          exact retL S hr hlocks hP hS hF dX7_on_76
        · have hF := hF.2 c_7
          refine lv_lload_n hx hb dX7_on_43 rfl (lv_at hl 2 rfl) ?_
          refine lv_aload_n hx hb dX7_on_44 rfl (lv_at hl 0 rfl) ?_
          refine lv_iload hx hb dX7_on_45 (lv_at hl 3 rfl) ?_
          refine goL (rV (rest := [.long x3_37]) S hK hP (ctX7_metAt l D cI cJ ad had x5_37 _ _ hF) (cwV 1 hts gX7_on_X7_metAt rfl rfl rfl hdV_X7_metAt ⟨Nat.le_of_ble_eq_true rfl, Nat.le_of_ble_eq_true rfl⟩) e_M rfl rfl hl.1 rfl (Nat.le_of_ble_eq_true rfl) dX7_on_47 ⟨Nat.zero_le _, Nat.zero_le _⟩) hS (fun _ h => h) (fun r_11 M_11 H locs hP hS hF => ?_)
          refine lv_ladd hx hb dX7_on_50 ?_
          refine lv_lstore_n (lv' := [(3, .long (x3_37 + r_11)), (0, .ref (ad 32)), (2, .int a2), (5, .int x5_37)]) hx hb dX7_on_51 rfl hl (by decide) rfl (fun ls hl => ?_)
          refine lv_iinc (v := (x5_37 + 1)) (lv' := [(5, .int (x5_37 + 1)), (3, .long (x3_37 + r_11)), (0, .ref (ad 32)), (2, .int a2)]) hx hb dX7_on_52 hl (k := 3) rfl rfl (by decide) rfl (fun ls hl => ?_)
          refine lv_goto (tgt := 37) hx hb dX7_on_55 (by decide) ?_
          exact hJ_37 _ _ _ hF _ _ _ hP hS (lv_sub hl [2, 3, 1, 0] rfl)
      exact key_37 _ _ _ hF _ _ _ hP hS (lv_sub hl [2, 4, 1, 0] rfl)
    · have hF := hF.1 c_4
      refine lv_ldc2 (v := -9223372036854775808) hx hb hown (hts (.constantLong RX7 78 (-9223372036854775808)) (by decide +kernel)) dX7_on_15 ?_
      exact retL S hr hlocks hP hS hF dX7_on_18
def bX7_less_58 (a1 : Int32) (a2 : Int32) (Q : Int64 → Mm → Prop) (J_58 : Int32 → Mm → Prop) (x3_58 : Int32) (m58 : Mm) : Prop := ((x3_58 < a1 → (wX7_told a2 (fun r_11 M_11 => (Q r_11 M_11)) m58)) ∧ (¬ x3_58 < a1 → (vp_in x3_58 8 ∧ (vp_in x3_58 8 ∧ (wX7_share (((144 : Int64) * (gj m58 5)) + ((gb m58 42 x3_58.toNatClampNeg) * (gj m58 4))) ((gb m58 43 x3_58.toNatClampNeg) * (gj m58 5)) (fun M_14 => (J_58 (x3_58 + (-1)) M_14)) m58)))))
def lX7_less_58 (a1 : Int32) (a2 : Int32) (Q : Int64 → Mm → Prop) (x3_58 : Int32) (m58 : Mm) : Prop := ∀ I : Int32 → Mm → Prop, (∀ J : Int32 → Mm → Prop, (∀ (x3_58 : Int32) (m : Mm), J x3_58 m → I x3_58 m) → ∀ (x3_58 : Int32) (m : Mm), bX7_less_58 a1 a2 Q J x3_58 m → I x3_58 m) → I x3_58 m58
theorem lX7_less_58_mk (a1 : Int32) (a2 : Int32) (Q : Int64 → Mm → Prop) (x3_58 : Int32) (m58 : Mm) (h : bX7_less_58 a1 a2 Q (lX7_less_58 a1 a2 Q) x3_58 m58) : lX7_less_58 a1 a2 Q x3_58 m58 := fun I hI => hI (lX7_less_58 a1 a2 Q) (fun _ _ q => q I hI) _ _ h
def wX7_less (a1 : Int32) (a2 : Int32) (Q : Int64 → Mm → Prop) (M : Mm) : Prop := (wX7_within a1 (1 : Int32) (5 : Int32) (fun r_1 M_1 => ((r_1 = 0 → (Q (-9223372036854775808 : Int64) M_1)) ∧ (¬ r_1 = 0 → (wX7_isWhich a2 (fun r_3 M_3 => ((r_3 = 0 → (Q (-9223372036854775808 : Int64) M_3)) ∧ (¬ r_3 = 0 → (((gi M_3 28) = 0 → (Q (-9223372036854775808 : Int64) M_3)) ∧ (¬ (gi M_3 28) = 0 → (wX7_layRun 38 (fun M_6 => (vp_in a1 8 ∧ (((gb M_6 44 a1.toNatClampNeg) = (0 : Int64) → (Q (-9223372036854775808 : Int64) M_6)) ∧ (¬ (gb M_6 44 a1.toNatClampNeg) = (0 : Int64) → (wX7_share (0 : Int64) (1 : Int64) (fun M_9 => (lX7_less_58 a1 a2 Q (5 : Int32) M_9)) M_6))))) M_3)))))) M_1)))) M)
set_option maxHeartbeats 4000000 in
set_option maxRecDepth 100000 in
theorem ctX7_less (l : Launch) (D : va_G) (cI cJ : ClassId) (ad : Nat → Nat) (had : inj54 ad) (a1 : Int32) (a2 : Int32) (Q : Int64 → Mm → Prop) (M : Mm) (hF : wX7_less a1 a2 Q M) : Met l yX7_less wsX7_less ({ frames := 2, cells := 0, slots := 0, locals := 55 } : Room) (PcW D cI cJ ad M [.ref (ad 32), .int a1, .int a2]) (QlW D cI cJ ad Q) 0 0 (Fr ad) := by
  refine entW (y := yX7_less) (ret := some .long) (maxL := 4) (plainFor_of_name (by decide)) rfl (Nat.le_of_ble_eq_true rfl) ?_
  intro p e s m args below meth c ls S hK hr hlocks hP hS hl
  have hx := S.1
  have hb := S.2.1
  have hown := S.2.2.2.1
  have hts := S.2.2.2.2
  have i7 : ∀ w ∈ wsX70, w ∈ wsX7_less := by decide +kernel
  have k142 := hts (.fieldLink RX7 142 "RopeLineModel" "isPlace" "Z") (by decide +kernel)
  have k25 := hts (.fieldLink RX7 25 "RopeLineModel" "bars" "[I") (by decide +kernel)
  have k44 := hts (.fieldLink RX7 44 "RopeLineModel" "weights" "[J") (by decide +kernel)
  have k88 := hts (.fieldLink RX7 88 "RopeLineModel" "down" "J") (by decide +kernel)
  have k37 := hts (.fieldLink RX7 37 "RopeLineModel" "ups" "[J") (by decide +kernel)
  have k84 := hts (.fieldLink RX7 84 "RopeLineModel" "up" "J") (by decide +kernel)
  have k41 := hts (.fieldLink RX7 41 "RopeLineModel" "downs" "[J") (by decide +kernel)
  have hl : lv_has ls 4 [(0, .ref (ad 32)), (1, .int a1), (2, .int a2)] := hl
  unfold wX7_less at hF
  refine lv_iload_n hx hb dX7_less_0 rfl (lv_at hl 1 rfl) ?_
  refine lv_iconst (v := 1) hx hb dX7_less_1 (by decide) ?_
  refine lv_iconst (v := 5) hx hb dX7_less_2 (by decide) ?_
  refine goZ (rS (rest := []) S hK hP (ctX7_within l D cI cJ ad had a1 (1 : Int32) (5 : Int32) _ _ hF) (va_cwS 3 hts gX7_less_X7_within rfl rfl rfl hdS_X7_within ⟨Nat.le_of_ble_eq_true rfl, Nat.le_of_ble_eq_true rfl⟩) rfl hl.1 rfl (Nat.le_of_ble_eq_true rfl) dX7_less_3 ⟨Nat.zero_le _, Nat.zero_le _⟩) hS (fun _ h => h) (fun r_1 M_1 H locs hP hS hz_r_1 hF => ?_)
  refine lv_if_eq (tgt := 23) hx hb dX7_less_6 (by decide) (fun c_2 => ?_) (fun c_2 => ?_)
  · have hF := hF.1 c_2
    refine lv_ldc2 (v := -9223372036854775808) hx hb hown (hts (.constantLong RX7 78 (-9223372036854775808)) (by decide +kernel)) dX7_less_23 ?_
    exact retL S hr hlocks hP hS hF dX7_less_26
  · have hF := hF.2 c_2
    refine lv_iload_n hx hb dX7_less_9 rfl (lv_at hl 2 rfl) ?_
    refine goZ (rS (rest := []) S hK hP (ctX7_isWhich l D cI cJ ad had a2 _ _ hF) (va_cwS 1 hts gX7_less_X7_isWhich rfl rfl rfl hdS_X7_isWhich ⟨Nat.le_of_ble_eq_true rfl, Nat.le_of_ble_eq_true rfl⟩) rfl hl.1 rfl (Nat.le_of_ble_eq_true rfl) dX7_less_10 ⟨Nat.zero_le _, Nat.zero_le _⟩) hS (fun _ h => h) (fun r_3 M_3 H locs hP hS hz_r_3 hF => ?_)
    refine lv_if_eq (tgt := 23) hx hb dX7_less_13 (by decide) (fun c_4 => ?_) (fun c_4 => ?_)
    · have hF := hF.1 c_4
      refine lv_ldc2 (v := -9223372036854775808) hx hb hown (hts (.constantLong RX7 78 (-9223372036854775808)) (by decide +kernel)) dX7_less_23 ?_
      exact retL S hr hlocks hP hS hF dX7_less_26
    · have hF := hF.2 c_4
      refine lv_aload_n hx hb dX7_less_16 rfl (lv_at hl 0 rfl) ?_
      refine gF S hK hP i7 e_M rfl 7 (by decide) k142 f_M_isPlace dX7_less_17 ?_
      refine lv_if_ne (tgt := 27) hx hb dX7_less_20 (by decide) (fun c_5 => ?_) (fun c_5 => ?_)
      · have hF := hF.2 c_5
        refine lv_aload_n hx hb dX7_less_27 rfl (lv_at hl 0 rfl) ?_
        refine lv_aload_n hx hb dX7_less_28 rfl (lv_at hl 0 rfl) ?_
        refine gF S hK hP i7 e_M rfl 13 (by decide) k25 f_M_bars dX7_less_29 ?_
        refine goV (rV (rest := []) S hK hP (ctX7_layRun l D cI cJ ad had 38 rfl _ _ hF) (cwV 1 hts gX7_less_X7_layRun rfl rfl rfl hdV_X7_layRun ⟨Nat.le_of_ble_eq_true rfl, Nat.le_of_ble_eq_true rfl⟩) e_M rfl rfl hl.1 rfl (Nat.le_of_ble_eq_true rfl) dX7_less_32 ⟨Nat.zero_le _, Nat.zero_le _⟩) hS (fun _ h => h) (fun M_6 H locs hP hS hF => ?_)
        refine lv_aload_n hx hb dX7_less_35 rfl (lv_at hl 0 rfl) ?_
        refine gF S hK hP i7 e_M rfl 27 (by decide) k44 f_M_weights dX7_less_36 ?_
        refine lv_iload_n hx hb dX7_less_39 rfl (lv_at hl 1 rfl) ?_
        obtain ⟨hb_7, hF⟩ := hF
        refine ldB S hK hP (k := 44) rfl hb_7 dX7_less_40 ?_
        refine lv_lconst (v := 0) hx hb dX7_less_41 (by decide) ?_
        refine W.lcmp hx hb dX7_less_42 ?_
        refine lv_if_ne (tgt := 50) hx hb dX7_less_43 (by decide) (fun c_8 => ?_) (fun c_8 => ?_)
        · have hF := hF.2 (fun q => c_8 (lc_eq.mpr q))
          refine lv_aload_n hx hb dX7_less_50 rfl (lv_at hl 0 rfl) ?_
          refine lv_lconst (v := 0) hx hb dX7_less_51 (by decide) ?_
          refine lv_lconst (v := 1) hx hb dX7_less_52 (by decide) ?_
          refine goV (rV (rest := []) S hK hP (ctX7_share l D cI cJ ad had (0 : Int64) (1 : Int64) _ _ hF) (cwV 2 hts gX7_less_X7_share rfl rfl rfl hdV_X7_share ⟨Nat.le_of_ble_eq_true rfl, Nat.le_of_ble_eq_true rfl⟩) e_M rfl rfl hl.1 rfl (Nat.le_of_ble_eq_true rfl) dX7_less_53 ⟨Nat.zero_le _, Nat.zero_le _⟩) hS (fun _ h => h) (fun M_9 H locs hP hS hF => ?_)
          refine lv_iconst (v := 5) hx hb dX7_less_56 (by decide) ?_
          refine lv_istore_n (lv' := [(3, .int (5 : Int32)), (0, .ref (ad 32)), (1, .int a1), (2, .int a2)]) hx hb dX7_less_57 rfl hl (by decide) rfl (fun ls hl => ?_)
          have key_58 : ∀ (x3_58 : Int32) (m58 : Mm), (lX7_less_58 a1 a2 Q x3_58 m58) → Wc p l e ({ frames := 2, cells := 0, slots := 0, locals := 55 } : Room) s m args below meth c D cI cJ ad (MQ below (QlW D cI cJ ad Q) args s 0 0 (Fr ad)) 4 58 [(0, .ref (ad 32)), (1, .int a1), (2, .int a2), (3, .int x3_58)] m58 := by
            intro x3_58 m58 hL
            refine hL (fun x3_58 m58 => Wc p l e ({ frames := 2, cells := 0, slots := 0, locals := 55 } : Room) s m args below meth c D cI cJ ad (MQ below (QlW D cI cJ ad Q) args s 0 0 (Fr ad)) 4 58 [(0, .ref (ad 32)), (1, .int a1), (2, .int a2), (3, .int x3_58)] m58) ?_
            intro J_58 hJ_58 x3_58 m58 hF H locs ls hP hS hl
            unfold bX7_less_58 at hF
            refine lv_iload_n hx hb dX7_less_58 rfl (lv_at hl 3 rfl) ?_
            refine lv_iload_n hx hb dX7_less_59 rfl (lv_at hl 1 rfl) ?_
            refine lv_icmp_lt (tgt := 104) hx hb dX7_less_60 (by decide) (fun c_10 => ?_) (fun c_10 => ?_)
            · have hF := hF.1 c_10
              refine lv_aload_n hx hb dX7_less_104 rfl (lv_at hl 0 rfl) ?_
              refine lv_iload_n hx hb dX7_less_105 rfl (lv_at hl 2 rfl) ?_
              refine goL (rV (rest := []) S hK hP (ctX7_told l D cI cJ ad had a2 _ _ hF) (cwV 1 hts gX7_less_X7_told rfl rfl rfl hdV_X7_told ⟨Nat.le_of_ble_eq_true rfl, Nat.le_of_ble_eq_true rfl⟩) e_M rfl rfl hl.1 rfl (Nat.le_of_ble_eq_true rfl) dX7_less_106 ⟨Nat.zero_le _, Nat.zero_le _⟩) hS (fun _ h => h) (fun r_11 M_11 H locs hP hS hF => ?_)
              exact retL S hr hlocks hP hS hF dX7_less_109
            · have hF := hF.2 c_10
              refine lv_aload_n hx hb dX7_less_63 rfl (lv_at hl 0 rfl) ?_
              refine lv_ldc2 (v := 144) hx hb hown (hts (.constantLong RX7 218 (144)) (by decide +kernel)) dX7_less_64 ?_
              refine lv_aload_n hx hb dX7_less_67 rfl (lv_at hl 0 rfl) ?_
              refine gF S hK hP i7 e_M rfl 3 (by decide) k88 f_M_down dX7_less_68 ?_
              refine lv_lmul hx hb dX7_less_71 ?_
              refine lv_aload_n hx hb dX7_less_72 rfl (lv_at hl 0 rfl) ?_
              refine gF S hK hP i7 e_M rfl 25 (by decide) k37 f_M_ups dX7_less_73 ?_
              refine lv_iload_n hx hb dX7_less_76 rfl (lv_at hl 3 rfl) ?_
              obtain ⟨hb_12, hF⟩ := hF
              refine ldB S hK hP (k := 42) rfl hb_12 dX7_less_77 ?_
              refine lv_aload_n hx hb dX7_less_78 rfl (lv_at hl 0 rfl) ?_
              refine gF S hK hP i7 e_M rfl 2 (by decide) k84 f_M_up dX7_less_79 ?_
              refine lv_lmul hx hb dX7_less_82 ?_
              refine lv_ladd hx hb dX7_less_83 ?_
              refine lv_aload_n hx hb dX7_less_84 rfl (lv_at hl 0 rfl) ?_
              refine gF S hK hP i7 e_M rfl 26 (by decide) k41 f_M_downs dX7_less_85 ?_
              refine lv_iload_n hx hb dX7_less_88 rfl (lv_at hl 3 rfl) ?_
              obtain ⟨hb_13, hF⟩ := hF
              refine ldB S hK hP (k := 43) rfl hb_13 dX7_less_89 ?_
              refine lv_aload_n hx hb dX7_less_90 rfl (lv_at hl 0 rfl) ?_
              refine gF S hK hP i7 e_M rfl 3 (by decide) k88 f_M_down dX7_less_91 ?_
              refine lv_lmul hx hb dX7_less_94 ?_
              refine goV (rV (rest := []) S hK hP (ctX7_share l D cI cJ ad had (((144 : Int64) * (gj m58 5)) + ((gb m58 42 x3_58.toNatClampNeg) * (gj m58 4))) ((gb m58 43 x3_58.toNatClampNeg) * (gj m58 5)) _ _ hF) (cwV 2 hts gX7_less_X7_share rfl rfl rfl hdV_X7_share ⟨Nat.le_of_ble_eq_true rfl, Nat.le_of_ble_eq_true rfl⟩) e_M rfl rfl hl.1 rfl (Nat.le_of_ble_eq_true rfl) dX7_less_95 ⟨Nat.zero_le _, Nat.zero_le _⟩) hS (fun _ h => h) (fun M_14 H locs hP hS hF => ?_)
              refine lv_iinc (v := (x3_58 + (-1))) (lv' := [(3, .int (x3_58 + (-1))), (0, .ref (ad 32)), (1, .int a1), (2, .int a2)]) hx hb dX7_less_98 hl (k := 3) rfl rfl (by decide) rfl (fun ls hl => ?_)
              refine lv_goto (tgt := 58) hx hb dX7_less_101 (by decide) ?_
              exact hJ_58 _ _ hF _ _ _ hP hS (lv_sub hl [1, 2, 3, 0] rfl)
          exact key_58 _ _ hF _ _ _ hP hS (lv_sub hl [1, 2, 3, 0] rfl)
        · have hF := hF.1 (lc_eq.mp c_8)
          refine lv_ldc2 (v := -9223372036854775808) hx hb hown (hts (.constantLong RX7 78 (-9223372036854775808)) (by decide +kernel)) dX7_less_46 ?_
          exact retL S hr hlocks hP hS hF dX7_less_49
      · have hF := hF.1 c_5
        refine lv_ldc2 (v := -9223372036854775808) hx hb hown (hts (.constantLong RX7 78 (-9223372036854775808)) (by decide +kernel)) dX7_less_23 ?_
        exact retL S hr hlocks hP hS hF dX7_less_26
def bX7_after_212 (a1 : Int32) (a3 : Int32) (a4 : Int32) (x5_95 : Int64) (x7_95 : Int32) (Q : Int64 → Mm → Prop) (J_58 : Int32 → Mm → Prop) (J_95 : Int64 → Int32 → Mm → Prop) (J_104 : Int32 → Mm → Prop) (J_212 : Int32 → Mm → Prop) (x8_212 : Int32) (m212 : Mm) : Prop := (((5 : Int32) < x8_212 → (J_95 (x5_95 * (144 : Int64)) (x7_95 + 1) m212)) ∧ (¬ (5 : Int32) < x8_212 → (vp_in x8_212 8 ∧ (vp_in x8_212 8 ∧ (∀ M_19 : Mm, M_19 = (sb m212 45 (vp_updL (gb m212 45) x8_212.toNatClampNeg (gb m212 46 x8_212.toNatClampNeg))) → (J_212 (x8_212 + 1) M_19))))))
def lX7_after_212 (a1 : Int32) (a3 : Int32) (a4 : Int32) (x5_95 : Int64) (x7_95 : Int32) (Q : Int64 → Mm → Prop) (J_58 : Int32 → Mm → Prop) (J_95 : Int64 → Int32 → Mm → Prop) (J_104 : Int32 → Mm → Prop) (x8_212 : Int32) (m212 : Mm) : Prop := ∀ I : Int32 → Mm → Prop, (∀ J : Int32 → Mm → Prop, (∀ (x8_212 : Int32) (m : Mm), J x8_212 m → I x8_212 m) → ∀ (x8_212 : Int32) (m : Mm), bX7_after_212 a1 a3 a4 x5_95 x7_95 Q J_58 J_95 J_104 J x8_212 m → I x8_212 m) → I x8_212 m212
theorem lX7_after_212_mk (a1 : Int32) (a3 : Int32) (a4 : Int32) (x5_95 : Int64) (x7_95 : Int32) (Q : Int64 → Mm → Prop) (J_58 : Int32 → Mm → Prop) (J_95 : Int64 → Int32 → Mm → Prop) (J_104 : Int32 → Mm → Prop) (x8_212 : Int32) (m212 : Mm) (h : bX7_after_212 a1 a3 a4 x5_95 x7_95 Q J_58 J_95 J_104 (lX7_after_212 a1 a3 a4 x5_95 x7_95 Q J_58 J_95 J_104) x8_212 m212) : lX7_after_212 a1 a3 a4 x5_95 x7_95 Q J_58 J_95 J_104 x8_212 m212 := fun I hI => hI (lX7_after_212 a1 a3 a4 x5_95 x7_95 Q J_58 J_95 J_104) (fun _ _ q => q I hI) _ _ h
def bX7_after_104 (a1 : Int32) (a3 : Int32) (a4 : Int32) (x5_95 : Int64) (x7_95 : Int32) (Q : Int64 → Mm → Prop) (J_58 : Int32 → Mm → Prop) (J_95 : Int64 → Int32 → Mm → Prop) (J_104 : Int32 → Mm → Prop) (x8_104 : Int32) (m104 : Mm) : Prop := (((5 : Int32) < x8_104 → (lX7_after_212 a1 a3 a4 x5_95 x7_95 Q J_58 J_95 J_104 (0 : Int32) m104)) ∧ (¬ (5 : Int32) < x8_104 → (vp_in x8_104 8 ∧ (vp_in x8_104 8 ∧ (vp_in x8_104 8 ∧ ((x8_104 ≤ 0 → (((5 : Int32) ≤ x8_104 → (vp_in x8_104 8 ∧ (∀ M_26 : Mm, M_26 = (sb m104 46 (vp_updL (gb m104 46) x8_104.toNatClampNeg ((((gb m104 45 x8_104.toNatClampNeg) * (((144 : Int64) - (gb m104 42 x8_104.toNatClampNeg)) - (gb m104 43 x8_104.toNatClampNeg))) + (0 : Int64)) + (0 : Int64)))) → (J_104 (x8_104 + 1) M_26)))) ∧ (¬ (5 : Int32) ≤ x8_104 → (vp_in (x8_104 + (1 : Int32)) 8 ∧ (vp_in (x8_104 + (1 : Int32)) 8 ∧ (vp_in x8_104 8 ∧ (∀ M_30 : Mm, M_30 = (sb m104 46 (vp_updL (gb m104 46) x8_104.toNatClampNeg ((((gb m104 45 x8_104.toNatClampNeg) * (((144 : Int64) - (gb m104 42 x8_104.toNatClampNeg)) - (gb m104 43 x8_104.toNatClampNeg))) + (0 : Int64)) + ((gb m104 45 (x8_104 + (1 : Int32)).toNatClampNeg) * (gb m104 43 (x8_104 + (1 : Int32)).toNatClampNeg))))) → (J_104 (x8_104 + 1) M_30)))))))) ∧ (¬ x8_104 ≤ 0 → (vp_in (x8_104 - (1 : Int32)) 8 ∧ (vp_in (x8_104 - (1 : Int32)) 8 ∧ (((5 : Int32) ≤ x8_104 → (vp_in x8_104 8 ∧ (∀ M_35 : Mm, M_35 = (sb m104 46 (vp_updL (gb m104 46) x8_104.toNatClampNeg ((((gb m104 45 x8_104.toNatClampNeg) * (((144 : Int64) - (gb m104 42 x8_104.toNatClampNeg)) - (gb m104 43 x8_104.toNatClampNeg))) + ((gb m104 45 (x8_104 - (1 : Int32)).toNatClampNeg) * (gb m104 42 (x8_104 - (1 : Int32)).toNatClampNeg))) + (0 : Int64)))) → (J_104 (x8_104 + 1) M_35)))) ∧ (¬ (5 : Int32) ≤ x8_104 → (vp_in (x8_104 + (1 : Int32)) 8 ∧ (vp_in (x8_104 + (1 : Int32)) 8 ∧ (vp_in x8_104 8 ∧ (∀ M_39 : Mm, M_39 = (sb m104 46 (vp_updL (gb m104 46) x8_104.toNatClampNeg ((((gb m104 45 x8_104.toNatClampNeg) * (((144 : Int64) - (gb m104 42 x8_104.toNatClampNeg)) - (gb m104 43 x8_104.toNatClampNeg))) + ((gb m104 45 (x8_104 - (1 : Int32)).toNatClampNeg) * (gb m104 42 (x8_104 - (1 : Int32)).toNatClampNeg))) + ((gb m104 45 (x8_104 + (1 : Int32)).toNatClampNeg) * (gb m104 43 (x8_104 + (1 : Int32)).toNatClampNeg))))) → (J_104 (x8_104 + 1) M_39))))))))))))))))
def lX7_after_104 (a1 : Int32) (a3 : Int32) (a4 : Int32) (x5_95 : Int64) (x7_95 : Int32) (Q : Int64 → Mm → Prop) (J_58 : Int32 → Mm → Prop) (J_95 : Int64 → Int32 → Mm → Prop) (x8_104 : Int32) (m104 : Mm) : Prop := ∀ I : Int32 → Mm → Prop, (∀ J : Int32 → Mm → Prop, (∀ (x8_104 : Int32) (m : Mm), J x8_104 m → I x8_104 m) → ∀ (x8_104 : Int32) (m : Mm), bX7_after_104 a1 a3 a4 x5_95 x7_95 Q J_58 J_95 J x8_104 m → I x8_104 m) → I x8_104 m104
theorem lX7_after_104_mk (a1 : Int32) (a3 : Int32) (a4 : Int32) (x5_95 : Int64) (x7_95 : Int32) (Q : Int64 → Mm → Prop) (J_58 : Int32 → Mm → Prop) (J_95 : Int64 → Int32 → Mm → Prop) (x8_104 : Int32) (m104 : Mm) (h : bX7_after_104 a1 a3 a4 x5_95 x7_95 Q J_58 J_95 (lX7_after_104 a1 a3 a4 x5_95 x7_95 Q J_58 J_95) x8_104 m104) : lX7_after_104 a1 a3 a4 x5_95 x7_95 Q J_58 J_95 x8_104 m104 := fun I hI => hI (lX7_after_104 a1 a3 a4 x5_95 x7_95 Q J_58 J_95) (fun _ _ q => q I hI) _ _ h
def bX7_after_95 (a1 : Int32) (a3 : Int32) (a4 : Int32) (Q : Int64 → Mm → Prop) (J_58 : Int32 → Mm → Prop) (J_95 : Int64 → Int32 → Mm → Prop) (x5_95 : Int64) (x7_95 : Int32) (m95 : Mm) : Prop := ((a1 ≤ x7_95 → (vp_in a3 8 ∧ (wX7_share (gb m95 45 a3.toNatClampNeg) x5_95 (fun M_14 => (wX7_told a4 (fun r_15 M_15 => (Q r_15 M_15)) M_14)) m95))) ∧ (¬ a1 ≤ x7_95 → (lX7_after_104 a1 a3 a4 x5_95 x7_95 Q J_58 J_95 (0 : Int32) m95)))
def lX7_after_95 (a1 : Int32) (a3 : Int32) (a4 : Int32) (Q : Int64 → Mm → Prop) (J_58 : Int32 → Mm → Prop) (x5_95 : Int64) (x7_95 : Int32) (m95 : Mm) : Prop := ∀ I : Int64 → Int32 → Mm → Prop, (∀ J : Int64 → Int32 → Mm → Prop, (∀ (x5_95 : Int64) (x7_95 : Int32) (m : Mm), J x5_95 x7_95 m → I x5_95 x7_95 m) → ∀ (x5_95 : Int64) (x7_95 : Int32) (m : Mm), bX7_after_95 a1 a3 a4 Q J_58 J x5_95 x7_95 m → I x5_95 x7_95 m) → I x5_95 x7_95 m95
theorem lX7_after_95_mk (a1 : Int32) (a3 : Int32) (a4 : Int32) (Q : Int64 → Mm → Prop) (J_58 : Int32 → Mm → Prop) (x5_95 : Int64) (x7_95 : Int32) (m95 : Mm) (h : bX7_after_95 a1 a3 a4 Q J_58 (lX7_after_95 a1 a3 a4 Q J_58) x5_95 x7_95 m95) : lX7_after_95 a1 a3 a4 Q J_58 x5_95 x7_95 m95 := fun I hI => hI (lX7_after_95 a1 a3 a4 Q J_58) (fun _ _ _ q => q I hI) _ _ _ h
def bX7_after_58 (a1 : Int32) (a2 : Int32) (a3 : Int32) (a4 : Int32) (Q : Int64 → Mm → Prop) (J_58 : Int32 → Mm → Prop) (x5_58 : Int32) (m58 : Mm) : Prop := (((8 : Int32) ≤ x5_58 → (lX7_after_95 a1 a3 a4 Q J_58 (1 : Int64) (0 : Int32) m58)) ∧ (¬ (8 : Int32) ≤ x5_58 → ((x5_58 = a2 → (vp_in x5_58 8 ∧ (∀ M_44 : Mm, M_44 = (sb m58 45 (vp_updL (gb m58 45) x5_58.toNatClampNeg (1 : Int64))) → (J_58 (x5_58 + 1) M_44)))) ∧ (¬ x5_58 = a2 → (vp_in x5_58 8 ∧ (∀ M_42 : Mm, M_42 = (sb m58 45 (vp_updL (gb m58 45) x5_58.toNatClampNeg (0 : Int64))) → (J_58 (x5_58 + 1) M_42)))))))
def lX7_after_58 (a1 : Int32) (a2 : Int32) (a3 : Int32) (a4 : Int32) (Q : Int64 → Mm → Prop) (x5_58 : Int32) (m58 : Mm) : Prop := ∀ I : Int32 → Mm → Prop, (∀ J : Int32 → Mm → Prop, (∀ (x5_58 : Int32) (m : Mm), J x5_58 m → I x5_58 m) → ∀ (x5_58 : Int32) (m : Mm), bX7_after_58 a1 a2 a3 a4 Q J x5_58 m → I x5_58 m) → I x5_58 m58
theorem lX7_after_58_mk (a1 : Int32) (a2 : Int32) (a3 : Int32) (a4 : Int32) (Q : Int64 → Mm → Prop) (x5_58 : Int32) (m58 : Mm) (h : bX7_after_58 a1 a2 a3 a4 Q (lX7_after_58 a1 a2 a3 a4 Q) x5_58 m58) : lX7_after_58 a1 a2 a3 a4 Q x5_58 m58 := fun I hI => hI (lX7_after_58 a1 a2 a3 a4 Q) (fun _ _ q => q I hI) _ _ h
def wX7_after (a1 : Int32) (a2 : Int32) (a3 : Int32) (a4 : Int32) (Q : Int64 → Mm → Prop) (M : Mm) : Prop := (wX7_within a1 (0 : Int32) (8 : Int32) (fun r_1 M_1 => ((r_1 = 0 → (Q (-9223372036854775808 : Int64) M_1)) ∧ (¬ r_1 = 0 → (wX7_within a2 (0 : Int32) (5 : Int32) (fun r_3 M_3 => ((r_3 = 0 → (Q (-9223372036854775808 : Int64) M_3)) ∧ (¬ r_3 = 0 → (wX7_within a3 (0 : Int32) (5 : Int32) (fun r_5 M_5 => ((r_5 = 0 → (Q (-9223372036854775808 : Int64) M_5)) ∧ (¬ r_5 = 0 → (wX7_isWhich a4 (fun r_7 M_7 => ((r_7 = 0 → (Q (-9223372036854775808 : Int64) M_7)) ∧ (¬ r_7 = 0 → (((gi M_7 28) = 0 → (Q (-9223372036854775808 : Int64) M_7)) ∧ (¬ (gi M_7 28) = 0 → (wX7_layRun 38 (fun M_10 => (lX7_after_58 a1 a2 a3 a4 Q (0 : Int32) M_10)) M_7)))))) M_5)))) M_3)))) M_1)))) M)
set_option maxHeartbeats 4000000 in
set_option maxRecDepth 100000 in
theorem ctX7_after (l : Launch) (D : va_G) (cI cJ : ClassId) (ad : Nat → Nat) (had : inj54 ad) (a1 : Int32) (a2 : Int32) (a3 : Int32) (a4 : Int32) (Q : Int64 → Mm → Prop) (M : Mm) (hF : wX7_after a1 a2 a3 a4 Q M) : Met l yX7_after wsX7_after ({ frames := 2, cells := 0, slots := 0, locals := 55 } : Room) (PcW D cI cJ ad M [.ref (ad 32), .int a1, .int a2, .int a3, .int a4]) (QlW D cI cJ ad Q) 0 0 (Fr ad) := by
  refine entW (y := yX7_after) (ret := some .long) (maxL := 9) (plainFor_of_name (by decide)) rfl (Nat.le_of_ble_eq_true rfl) ?_
  intro p e s m args below meth c ls S hK hr hlocks hP hS hl
  have hx := S.1
  have hb := S.2.1
  have hown := S.2.2.2.1
  have hts := S.2.2.2.2
  have i7 : ∀ w ∈ wsX70, w ∈ wsX7_after := by decide +kernel
  have k142 := hts (.fieldLink RX7 142 "RopeLineModel" "isPlace" "Z") (by decide +kernel)
  have k25 := hts (.fieldLink RX7 25 "RopeLineModel" "bars" "[I") (by decide +kernel)
  have k47 := hts (.fieldLink RX7 47 "RopeLineModel" "now" "[J") (by decide +kernel)
  have k50 := hts (.fieldLink RX7 50 "RopeLineModel" "next" "[J") (by decide +kernel)
  have k37 := hts (.fieldLink RX7 37 "RopeLineModel" "ups" "[J") (by decide +kernel)
  have k41 := hts (.fieldLink RX7 41 "RopeLineModel" "downs" "[J") (by decide +kernel)
  have hl : lv_has ls 9 [(0, .ref (ad 32)), (1, .int a1), (2, .int a2), (3, .int a3), (4, .int a4)] := hl
  unfold wX7_after at hF
  refine lv_iload_n hx hb dX7_after_0 rfl (lv_at hl 1 rfl) ?_
  refine lv_iconst (v := 0) hx hb dX7_after_1 (by decide) ?_
  refine lv_bipush (v := 8) hx hb dX7_after_2 (by decide) ?_
  refine goZ (rS (rest := []) S hK hP (ctX7_within l D cI cJ ad had a1 (0 : Int32) (8 : Int32) _ _ hF) (va_cwS 3 hts gX7_after_X7_within rfl rfl rfl hdS_X7_within ⟨Nat.le_of_ble_eq_true rfl, Nat.le_of_ble_eq_true rfl⟩) rfl hl.1 rfl (Nat.le_of_ble_eq_true rfl) dX7_after_4 ⟨Nat.zero_le _, Nat.zero_le _⟩) hS (fun _ h => h) (fun r_1 M_1 H locs hP hS hz_r_1 hF => ?_)
  refine lv_if_eq (tgt := 43) hx hb dX7_after_7 (by decide) (fun c_2 => ?_) (fun c_2 => ?_)
  · have hF := hF.1 c_2
    refine lv_ldc2 (v := -9223372036854775808) hx hb hown (hts (.constantLong RX7 78 (-9223372036854775808)) (by decide +kernel)) dX7_after_43 ?_
    exact retL S hr hlocks hP hS hF dX7_after_46
  · have hF := hF.2 c_2
    refine lv_iload_n hx hb dX7_after_10 rfl (lv_at hl 2 rfl) ?_
    refine lv_iconst (v := 0) hx hb dX7_after_11 (by decide) ?_
    refine lv_iconst (v := 5) hx hb dX7_after_12 (by decide) ?_
    refine goZ (rS (rest := []) S hK hP (ctX7_within l D cI cJ ad had a2 (0 : Int32) (5 : Int32) _ _ hF) (va_cwS 3 hts gX7_after_X7_within rfl rfl rfl hdS_X7_within ⟨Nat.le_of_ble_eq_true rfl, Nat.le_of_ble_eq_true rfl⟩) rfl hl.1 rfl (Nat.le_of_ble_eq_true rfl) dX7_after_13 ⟨Nat.zero_le _, Nat.zero_le _⟩) hS (fun _ h => h) (fun r_3 M_3 H locs hP hS hz_r_3 hF => ?_)
    refine lv_if_eq (tgt := 43) hx hb dX7_after_16 (by decide) (fun c_4 => ?_) (fun c_4 => ?_)
    · have hF := hF.1 c_4
      refine lv_ldc2 (v := -9223372036854775808) hx hb hown (hts (.constantLong RX7 78 (-9223372036854775808)) (by decide +kernel)) dX7_after_43 ?_
      exact retL S hr hlocks hP hS hF dX7_after_46
    · have hF := hF.2 c_4
      refine lv_iload_n hx hb dX7_after_19 rfl (lv_at hl 3 rfl) ?_
      refine lv_iconst (v := 0) hx hb dX7_after_20 (by decide) ?_
      refine lv_iconst (v := 5) hx hb dX7_after_21 (by decide) ?_
      refine goZ (rS (rest := []) S hK hP (ctX7_within l D cI cJ ad had a3 (0 : Int32) (5 : Int32) _ _ hF) (va_cwS 3 hts gX7_after_X7_within rfl rfl rfl hdS_X7_within ⟨Nat.le_of_ble_eq_true rfl, Nat.le_of_ble_eq_true rfl⟩) rfl hl.1 rfl (Nat.le_of_ble_eq_true rfl) dX7_after_22 ⟨Nat.zero_le _, Nat.zero_le _⟩) hS (fun _ h => h) (fun r_5 M_5 H locs hP hS hz_r_5 hF => ?_)
      refine lv_if_eq (tgt := 43) hx hb dX7_after_25 (by decide) (fun c_6 => ?_) (fun c_6 => ?_)
      · have hF := hF.1 c_6
        refine lv_ldc2 (v := -9223372036854775808) hx hb hown (hts (.constantLong RX7 78 (-9223372036854775808)) (by decide +kernel)) dX7_after_43 ?_
        exact retL S hr hlocks hP hS hF dX7_after_46
      · have hF := hF.2 c_6
        refine lv_iload hx hb dX7_after_28 (lv_at hl 4 rfl) ?_
        refine goZ (rS (rest := []) S hK hP (ctX7_isWhich l D cI cJ ad had a4 _ _ hF) (va_cwS 1 hts gX7_after_X7_isWhich rfl rfl rfl hdS_X7_isWhich ⟨Nat.le_of_ble_eq_true rfl, Nat.le_of_ble_eq_true rfl⟩) rfl hl.1 rfl (Nat.le_of_ble_eq_true rfl) dX7_after_30 ⟨Nat.zero_le _, Nat.zero_le _⟩) hS (fun _ h => h) (fun r_7 M_7 H locs hP hS hz_r_7 hF => ?_)
        refine lv_if_eq (tgt := 43) hx hb dX7_after_33 (by decide) (fun c_8 => ?_) (fun c_8 => ?_)
        · have hF := hF.1 c_8
          refine lv_ldc2 (v := -9223372036854775808) hx hb hown (hts (.constantLong RX7 78 (-9223372036854775808)) (by decide +kernel)) dX7_after_43 ?_
          exact retL S hr hlocks hP hS hF dX7_after_46
        · have hF := hF.2 c_8
          refine lv_aload_n hx hb dX7_after_36 rfl (lv_at hl 0 rfl) ?_
          refine gF S hK hP i7 e_M rfl 7 (by decide) k142 f_M_isPlace dX7_after_37 ?_
          refine lv_if_ne (tgt := 47) hx hb dX7_after_40 (by decide) (fun c_9 => ?_) (fun c_9 => ?_)
          · have hF := hF.2 c_9
            refine lv_aload_n hx hb dX7_after_47 rfl (lv_at hl 0 rfl) ?_
            refine lv_aload_n hx hb dX7_after_48 rfl (lv_at hl 0 rfl) ?_
            refine gF S hK hP i7 e_M rfl 13 (by decide) k25 f_M_bars dX7_after_49 ?_
            refine goV (rV (rest := []) S hK hP (ctX7_layRun l D cI cJ ad had 38 rfl _ _ hF) (cwV 1 hts gX7_after_X7_layRun rfl rfl rfl hdV_X7_layRun ⟨Nat.le_of_ble_eq_true rfl, Nat.le_of_ble_eq_true rfl⟩) e_M rfl rfl hl.1 rfl (Nat.le_of_ble_eq_true rfl) dX7_after_52 ⟨Nat.zero_le _, Nat.zero_le _⟩) hS (fun _ h => h) (fun M_10 H locs hP hS hF => ?_)
            refine lv_iconst (v := 0) hx hb dX7_after_55 (by decide) ?_
            refine lv_istore (lv' := [(5, .int (0 : Int32)), (0, .ref (ad 32)), (1, .int a1), (2, .int a2), (3, .int a3), (4, .int a4)]) hx hb dX7_after_56 hl (by decide) rfl (fun ls hl => ?_)
            have key_58 : ∀ (x5_58 : Int32) (m58 : Mm), (lX7_after_58 a1 a2 a3 a4 Q x5_58 m58) → Wc p l e ({ frames := 2, cells := 0, slots := 0, locals := 55 } : Room) s m args below meth c D cI cJ ad (MQ below (QlW D cI cJ ad Q) args s 0 0 (Fr ad)) 9 58 [(0, .ref (ad 32)), (1, .int a1), (2, .int a2), (3, .int a3), (4, .int a4), (5, .int x5_58)] m58 := by
              intro x5_58 m58 hL
              refine hL (fun x5_58 m58 => Wc p l e ({ frames := 2, cells := 0, slots := 0, locals := 55 } : Room) s m args below meth c D cI cJ ad (MQ below (QlW D cI cJ ad Q) args s 0 0 (Fr ad)) 9 58 [(0, .ref (ad 32)), (1, .int a1), (2, .int a2), (3, .int a3), (4, .int a4), (5, .int x5_58)] m58) ?_
              intro J_58 hJ_58 x5_58 m58 hF H locs ls hP hS hl
              unfold bX7_after_58 at hF
              refine lv_iload hx hb dX7_after_58 (lv_at hl 5 rfl) ?_
              refine lv_bipush (v := 8) hx hb dX7_after_60 (by decide) ?_
              refine lv_icmp_ge (tgt := 89) hx hb dX7_after_62 (by decide) (fun c_11 => ?_) (fun c_11 => ?_)
              · have hF := hF.1 c_11
                refine lv_lconst (v := 1) hx hb dX7_after_89 (by decide) ?_
                refine lv_lstore (lv' := [(5, .long (1 : Int64)), (0, .ref (ad 32)), (1, .int a1), (2, .int a2), (3, .int a3), (4, .int a4)]) hx hb dX7_after_90 hl (by decide) rfl (fun ls hl => ?_)
                refine lv_iconst (v := 0) hx hb dX7_after_92 (by decide) ?_
                refine lv_istore (lv' := [(7, .int (0 : Int32)), (5, .long (1 : Int64)), (0, .ref (ad 32)), (1, .int a1), (2, .int a2), (3, .int a3), (4, .int a4)]) hx hb dX7_after_93 hl (by decide) rfl (fun ls hl => ?_)
                have key_95 : ∀ (x5_95 : Int64) (x7_95 : Int32) (m95 : Mm), (lX7_after_95 a1 a3 a4 Q J_58 x5_95 x7_95 m95) → Wc p l e ({ frames := 2, cells := 0, slots := 0, locals := 55 } : Room) s m args below meth c D cI cJ ad (MQ below (QlW D cI cJ ad Q) args s 0 0 (Fr ad)) 9 95 [(0, .ref (ad 32)), (1, .int a1), (3, .int a3), (4, .int a4), (5, .long x5_95), (7, .int x7_95)] m95 := by
                  intro x5_95 x7_95 m95 hL
                  refine hL (fun x5_95 x7_95 m95 => Wc p l e ({ frames := 2, cells := 0, slots := 0, locals := 55 } : Room) s m args below meth c D cI cJ ad (MQ below (QlW D cI cJ ad Q) args s 0 0 (Fr ad)) 9 95 [(0, .ref (ad 32)), (1, .int a1), (3, .int a3), (4, .int a4), (5, .long x5_95), (7, .int x7_95)] m95) ?_
                  intro J_95 hJ_95 x5_95 x7_95 m95 hF H locs ls hP hS hl
                  unfold bX7_after_95 at hF
                  refine lv_iload hx hb dX7_after_95 (lv_at hl 5 rfl) ?_
                  refine lv_iload_n hx hb dX7_after_97 rfl (lv_at hl 1 rfl) ?_
                  refine lv_icmp_ge (tgt := 252) hx hb dX7_after_98 (by decide) (fun c_12 => ?_) (fun c_12 => ?_)
                  · have hF := hF.1 c_12
                    refine lv_aload_n hx hb dX7_after_252 rfl (lv_at hl 0 rfl) ?_
                    refine lv_aload_n hx hb dX7_after_253 rfl (lv_at hl 0 rfl) ?_
                    refine gF S hK hP i7 e_M rfl 28 (by decide) k47 f_M_now dX7_after_254 ?_
                    refine lv_iload_n hx hb dX7_after_257 rfl (lv_at hl 2 rfl) ?_
                    obtain ⟨hb_13, hF⟩ := hF
                    refine ldB S hK hP (k := 45) rfl hb_13 dX7_after_258 ?_
                    refine lv_lload hx hb dX7_after_259 (lv_at hl 4 rfl) ?_
                    refine goV (rV (rest := []) S hK hP (ctX7_share l D cI cJ ad had (gb m95 45 a3.toNatClampNeg) x5_95 _ _ hF) (cwV 2 hts gX7_after_X7_share rfl rfl rfl hdV_X7_share ⟨Nat.le_of_ble_eq_true rfl, Nat.le_of_ble_eq_true rfl⟩) e_M rfl rfl hl.1 rfl (Nat.le_of_ble_eq_true rfl) dX7_after_261 ⟨Nat.zero_le _, Nat.zero_le _⟩) hS (fun _ h => h) (fun M_14 H locs hP hS hF => ?_)
                    refine lv_aload_n hx hb dX7_after_264 rfl (lv_at hl 0 rfl) ?_
                    refine lv_iload hx hb dX7_after_265 (lv_at hl 3 rfl) ?_
                    refine goL (rV (rest := []) S hK hP (ctX7_told l D cI cJ ad had a4 _ _ hF) (cwV 1 hts gX7_after_X7_told rfl rfl rfl hdV_X7_told ⟨Nat.le_of_ble_eq_true rfl, Nat.le_of_ble_eq_true rfl⟩) e_M rfl rfl hl.1 rfl (Nat.le_of_ble_eq_true rfl) dX7_after_267 ⟨Nat.zero_le _, Nat.zero_le _⟩) hS (fun _ h => h) (fun r_15 M_15 H locs hP hS hF => ?_)
                    exact retL S hr hlocks hP hS hF dX7_after_270
                  · have hF := hF.2 c_12
                    refine lv_iconst (v := 0) hx hb dX7_after_101 (by decide) ?_
                    refine lv_istore (lv' := [(8, .int (0 : Int32)), (0, .ref (ad 32)), (1, .int a1), (3, .int a3), (4, .int a4), (5, .long x5_95), (7, .int x7_95)]) hx hb dX7_after_102 hl (by decide) rfl (fun ls hl => ?_)
                    have key_104 : ∀ (x8_104 : Int32) (m104 : Mm), (lX7_after_104 a1 a3 a4 x5_95 x7_95 Q J_58 J_95 x8_104 m104) → Wc p l e ({ frames := 2, cells := 0, slots := 0, locals := 55 } : Room) s m args below meth c D cI cJ ad (MQ below (QlW D cI cJ ad Q) args s 0 0 (Fr ad)) 9 104 [(0, .ref (ad 32)), (1, .int a1), (3, .int a3), (4, .int a4), (5, .long x5_95), (7, .int x7_95), (8, .int x8_104)] m104 := by
                      intro x8_104 m104 hL
                      refine hL (fun x8_104 m104 => Wc p l e ({ frames := 2, cells := 0, slots := 0, locals := 55 } : Room) s m args below meth c D cI cJ ad (MQ below (QlW D cI cJ ad Q) args s 0 0 (Fr ad)) 9 104 [(0, .ref (ad 32)), (1, .int a1), (3, .int a3), (4, .int a4), (5, .long x5_95), (7, .int x7_95), (8, .int x8_104)] m104) ?_
                      intro J_104 hJ_104 x8_104 m104 hF H locs ls hP hS hl
                      unfold bX7_after_104 at hF
                      refine lv_iload hx hb dX7_after_104 (lv_at hl 6 rfl) ?_
                      refine lv_iconst (v := 5) hx hb dX7_after_106 (by decide) ?_
                      refine lv_icmp_gt (tgt := 209) hx hb dX7_after_107 (by decide) (fun c_16 => ?_) (fun c_16 => ?_)
                      · have hF := hF.1 c_16
                        refine lv_iconst (v := 0) hx hb dX7_after_209 (by decide) ?_
                        refine lv_istore (lv' := [(8, .int (0 : Int32)), (0, .ref (ad 32)), (1, .int a1), (3, .int a3), (4, .int a4), (5, .long x5_95), (7, .int x7_95)]) hx hb dX7_after_210 hl (by decide) rfl (fun ls hl => ?_)
                        have key_212 : ∀ (x8_212 : Int32) (m212 : Mm), (lX7_after_212 a1 a3 a4 x5_95 x7_95 Q J_58 J_95 J_104 x8_212 m212) → Wc p l e ({ frames := 2, cells := 0, slots := 0, locals := 55 } : Room) s m args below meth c D cI cJ ad (MQ below (QlW D cI cJ ad Q) args s 0 0 (Fr ad)) 9 212 [(0, .ref (ad 32)), (1, .int a1), (3, .int a3), (4, .int a4), (5, .long x5_95), (7, .int x7_95), (8, .int x8_212)] m212 := by
                          intro x8_212 m212 hL
                          refine hL (fun x8_212 m212 => Wc p l e ({ frames := 2, cells := 0, slots := 0, locals := 55 } : Room) s m args below meth c D cI cJ ad (MQ below (QlW D cI cJ ad Q) args s 0 0 (Fr ad)) 9 212 [(0, .ref (ad 32)), (1, .int a1), (3, .int a3), (4, .int a4), (5, .long x5_95), (7, .int x7_95), (8, .int x8_212)] m212) ?_
                          intro J_212 hJ_212 x8_212 m212 hF H locs ls hP hS hl
                          unfold bX7_after_212 at hF
                          refine lv_iload hx hb dX7_after_212 (lv_at hl 6 rfl) ?_
                          refine lv_iconst (v := 5) hx hb dX7_after_214 (by decide) ?_
                          refine lv_icmp_gt (tgt := 238) hx hb dX7_after_215 (by decide) (fun c_17 => ?_) (fun c_17 => ?_)
                          · have hF := hF.1 c_17
                            refine lv_lload hx hb dX7_after_238 (lv_at hl 4 rfl) ?_
                            refine lv_ldc2 (v := 144) hx hb hown (hts (.constantLong RX7 218 (144)) (by decide +kernel)) dX7_after_240 ?_
                            refine lv_lmul hx hb dX7_after_243 ?_
                            refine lv_lstore (lv' := [(5, .long (x5_95 * (144 : Int64))), (0, .ref (ad 32)), (1, .int a1), (3, .int a3), (4, .int a4), (7, .int x7_95), (8, .int x8_212)]) hx hb dX7_after_244 hl (by decide) rfl (fun ls hl => ?_)
                            refine lv_iinc (v := (x7_95 + 1)) (lv' := [(7, .int (x7_95 + 1)), (5, .long (x5_95 * (144 : Int64))), (0, .ref (ad 32)), (1, .int a1), (3, .int a3), (4, .int a4), (8, .int x8_212)]) hx hb dX7_after_246 hl (k := 5) rfl rfl (by decide) rfl (fun ls hl => ?_)
                            refine lv_goto (tgt := 95) hx hb dX7_after_249 (by decide) ?_
                            exact hJ_95 _ _ _ hF _ _ _ hP hS (lv_sub hl [2, 3, 4, 5, 1, 0] rfl)
                          · have hF := hF.2 c_17
                            refine lv_aload_n hx hb dX7_after_218 rfl (lv_at hl 0 rfl) ?_
                            refine gF S hK hP i7 e_M rfl 28 (by decide) k47 f_M_now dX7_after_219 ?_
                            refine lv_iload hx hb dX7_after_222 (lv_at hl 6 rfl) ?_
                            refine lv_aload_n hx hb dX7_after_224 rfl (lv_at hl 0 rfl) ?_
                            refine gF S hK hP i7 e_M rfl 29 (by decide) k50 f_M_next dX7_after_225 ?_
                            refine lv_iload hx hb dX7_after_228 (lv_at hl 6 rfl) ?_
                            obtain ⟨hb_18, hF⟩ := hF
                            refine ldB S hK hP (k := 46) rfl hb_18 dX7_after_230 ?_
                            obtain ⟨hb_20, hF⟩ := hF
                            refine stB S hK had hP hS (k := 45) rfl hb_20 dX7_after_231 (fun M_19 H locs eM_19 hP hS => ?_)
                            have hF := hF M_19 eM_19
                            refine lv_iinc (v := (x8_212 + 1)) (lv' := [(8, .int (x8_212 + 1)), (0, .ref (ad 32)), (1, .int a1), (3, .int a3), (4, .int a4), (5, .long x5_95), (7, .int x7_95)]) hx hb dX7_after_232 hl (k := 6) rfl rfl (by decide) rfl (fun ls hl => ?_)
                            refine lv_goto (tgt := 212) hx hb dX7_after_235 (by decide) ?_
                            exact hJ_212 _ _ hF _ _ _ hP hS (lv_sub hl [1, 2, 3, 4, 5, 6, 0] rfl)
                        exact key_212 _ _ hF _ _ _ hP hS (lv_sub hl [1, 2, 3, 4, 5, 6, 0] rfl)
                      · have hF := hF.2 c_16
                        refine lv_aload_n hx hb dX7_after_110 rfl (lv_at hl 0 rfl) ?_
                        refine gF S hK hP i7 e_M rfl 29 (by decide) k50 f_M_next dX7_after_111 ?_
                        refine lv_iload hx hb dX7_after_114 (lv_at hl 6 rfl) ?_
                        refine lv_aload_n hx hb dX7_after_116 rfl (lv_at hl 0 rfl) ?_
                        refine gF S hK hP i7 e_M rfl 28 (by decide) k47 f_M_now dX7_after_117 ?_
                        refine lv_iload hx hb dX7_after_120 (lv_at hl 6 rfl) ?_
                        obtain ⟨hb_21, hF⟩ := hF
                        refine ldB S hK hP (k := 45) rfl hb_21 dX7_after_122 ?_
                        refine lv_ldc2 (v := 144) hx hb hown (hts (.constantLong RX7 218 (144)) (by decide +kernel)) dX7_after_123 ?_
                        refine lv_aload_n hx hb dX7_after_126 rfl (lv_at hl 0 rfl) ?_
                        refine gF S hK hP i7 e_M rfl 25 (by decide) k37 f_M_ups dX7_after_127 ?_
                        refine lv_iload hx hb dX7_after_130 (lv_at hl 6 rfl) ?_
                        obtain ⟨hb_22, hF⟩ := hF
                        refine ldB S hK hP (k := 42) rfl hb_22 dX7_after_132 ?_
                        refine lv_lsub hx hb dX7_after_133 ?_
                        refine lv_aload_n hx hb dX7_after_134 rfl (lv_at hl 0 rfl) ?_
                        refine gF S hK hP i7 e_M rfl 26 (by decide) k41 f_M_downs dX7_after_135 ?_
                        refine lv_iload hx hb dX7_after_138 (lv_at hl 6 rfl) ?_
                        obtain ⟨hb_23, hF⟩ := hF
                        refine ldB S hK hP (k := 43) rfl hb_23 dX7_after_140 ?_
                        refine lv_lsub hx hb dX7_after_141 ?_
                        refine lv_lmul hx hb dX7_after_142 ?_
                        refine lv_iload hx hb dX7_after_143 (lv_at hl 6 rfl) ?_
                        refine lv_if_le (tgt := 170) hx hb dX7_after_145 (by decide) (fun c_24 => ?_) (fun c_24 => ?_)
                        · have hF := hF.1 c_24
                          refine lv_lconst (v := 0) hx hb dX7_after_170 (by decide) ?_
                          refine lv_ladd hx hb dX7_after_171 ?_
                          refine lv_iload hx hb dX7_after_172 (lv_at hl 6 rfl) ?_
                          refine lv_iconst (v := 5) hx hb dX7_after_174 (by decide) ?_
                          refine lv_icmp_ge (tgt := 200) hx hb dX7_after_175 (by decide) (fun c_25 => ?_) (fun c_25 => ?_)
                          · have hF := hF.1 c_25
                            refine lv_lconst (v := 0) hx hb dX7_after_200 (by decide) ?_
                            refine lv_ladd hx hb dX7_after_201 ?_
                            obtain ⟨hb_27, hF⟩ := hF
                            refine stB S hK had hP hS (k := 46) rfl hb_27 dX7_after_202 (fun M_26 H locs eM_26 hP hS => ?_)
                            have hF := hF M_26 eM_26
                            refine lv_iinc (v := (x8_104 + 1)) (lv' := [(8, .int (x8_104 + 1)), (0, .ref (ad 32)), (1, .int a1), (3, .int a3), (4, .int a4), (5, .long x5_95), (7, .int x7_95)]) hx hb dX7_after_203 hl (k := 6) rfl rfl (by decide) rfl (fun ls hl => ?_)
                            refine lv_goto (tgt := 104) hx hb dX7_after_206 (by decide) ?_
                            exact hJ_104 _ _ hF _ _ _ hP hS (lv_sub hl [1, 2, 3, 4, 5, 6, 0] rfl)
                          · have hF := hF.2 c_25
                            refine lv_aload_n hx hb dX7_after_178 rfl (lv_at hl 0 rfl) ?_
                            refine gF S hK hP i7 e_M rfl 28 (by decide) k47 f_M_now dX7_after_179 ?_
                            refine lv_iload hx hb dX7_after_182 (lv_at hl 6 rfl) ?_
                            refine lv_iconst (v := 1) hx hb dX7_after_184 (by decide) ?_
                            refine lv_iadd hx hb dX7_after_185 ?_
                            obtain ⟨hb_28, hF⟩ := hF
                            refine ldB S hK hP (k := 45) rfl hb_28 dX7_after_186 ?_
                            refine lv_aload_n hx hb dX7_after_187 rfl (lv_at hl 0 rfl) ?_
                            refine gF S hK hP i7 e_M rfl 26 (by decide) k41 f_M_downs dX7_after_188 ?_
                            refine lv_iload hx hb dX7_after_191 (lv_at hl 6 rfl) ?_
                            refine lv_iconst (v := 1) hx hb dX7_after_193 (by decide) ?_
                            refine lv_iadd hx hb dX7_after_194 ?_
                            obtain ⟨hb_29, hF⟩ := hF
                            refine ldB S hK hP (k := 43) rfl hb_29 dX7_after_195 ?_
                            refine lv_lmul hx hb dX7_after_196 ?_
                            refine lv_goto (tgt := 201) hx hb dX7_after_197 (by decide) ?_
                            refine lv_ladd hx hb dX7_after_201 ?_
                            obtain ⟨hb_31, hF⟩ := hF
                            refine stB S hK had hP hS (k := 46) rfl hb_31 dX7_after_202 (fun M_30 H locs eM_30 hP hS => ?_)
                            have hF := hF M_30 eM_30
                            refine lv_iinc (v := (x8_104 + 1)) (lv' := [(8, .int (x8_104 + 1)), (0, .ref (ad 32)), (1, .int a1), (3, .int a3), (4, .int a4), (5, .long x5_95), (7, .int x7_95)]) hx hb dX7_after_203 hl (k := 6) rfl rfl (by decide) rfl (fun ls hl => ?_)
                            refine lv_goto (tgt := 104) hx hb dX7_after_206 (by decide) ?_
                            exact hJ_104 _ _ hF _ _ _ hP hS (lv_sub hl [1, 2, 3, 4, 5, 6, 0] rfl)
                        · have hF := hF.2 c_24
                          refine lv_aload_n hx hb dX7_after_148 rfl (lv_at hl 0 rfl) ?_
                          refine gF S hK hP i7 e_M rfl 28 (by decide) k47 f_M_now dX7_after_149 ?_
                          refine lv_iload hx hb dX7_after_152 (lv_at hl 6 rfl) ?_
                          refine lv_iconst (v := 1) hx hb dX7_after_154 (by decide) ?_
                          refine lv_isub hx hb dX7_after_155 ?_
                          obtain ⟨hb_32, hF⟩ := hF
                          refine ldB S hK hP (k := 45) rfl hb_32 dX7_after_156 ?_
                          refine lv_aload_n hx hb dX7_after_157 rfl (lv_at hl 0 rfl) ?_
                          refine gF S hK hP i7 e_M rfl 25 (by decide) k37 f_M_ups dX7_after_158 ?_
                          refine lv_iload hx hb dX7_after_161 (lv_at hl 6 rfl) ?_
                          refine lv_iconst (v := 1) hx hb dX7_after_163 (by decide) ?_
                          refine lv_isub hx hb dX7_after_164 ?_
                          obtain ⟨hb_33, hF⟩ := hF
                          refine ldB S hK hP (k := 42) rfl hb_33 dX7_after_165 ?_
                          refine lv_lmul hx hb dX7_after_166 ?_
                          refine lv_goto (tgt := 171) hx hb dX7_after_167 (by decide) ?_
                          refine lv_ladd hx hb dX7_after_171 ?_
                          refine lv_iload hx hb dX7_after_172 (lv_at hl 6 rfl) ?_
                          refine lv_iconst (v := 5) hx hb dX7_after_174 (by decide) ?_
                          refine lv_icmp_ge (tgt := 200) hx hb dX7_after_175 (by decide) (fun c_34 => ?_) (fun c_34 => ?_)
                          · have hF := hF.1 c_34
                            refine lv_lconst (v := 0) hx hb dX7_after_200 (by decide) ?_
                            refine lv_ladd hx hb dX7_after_201 ?_
                            obtain ⟨hb_36, hF⟩ := hF
                            refine stB S hK had hP hS (k := 46) rfl hb_36 dX7_after_202 (fun M_35 H locs eM_35 hP hS => ?_)
                            have hF := hF M_35 eM_35
                            refine lv_iinc (v := (x8_104 + 1)) (lv' := [(8, .int (x8_104 + 1)), (0, .ref (ad 32)), (1, .int a1), (3, .int a3), (4, .int a4), (5, .long x5_95), (7, .int x7_95)]) hx hb dX7_after_203 hl (k := 6) rfl rfl (by decide) rfl (fun ls hl => ?_)
                            refine lv_goto (tgt := 104) hx hb dX7_after_206 (by decide) ?_
                            exact hJ_104 _ _ hF _ _ _ hP hS (lv_sub hl [1, 2, 3, 4, 5, 6, 0] rfl)
                          · have hF := hF.2 c_34
                            refine lv_aload_n hx hb dX7_after_178 rfl (lv_at hl 0 rfl) ?_
                            refine gF S hK hP i7 e_M rfl 28 (by decide) k47 f_M_now dX7_after_179 ?_
                            refine lv_iload hx hb dX7_after_182 (lv_at hl 6 rfl) ?_
                            refine lv_iconst (v := 1) hx hb dX7_after_184 (by decide) ?_
                            refine lv_iadd hx hb dX7_after_185 ?_
                            obtain ⟨hb_37, hF⟩ := hF
                            refine ldB S hK hP (k := 45) rfl hb_37 dX7_after_186 ?_
                            refine lv_aload_n hx hb dX7_after_187 rfl (lv_at hl 0 rfl) ?_
                            refine gF S hK hP i7 e_M rfl 26 (by decide) k41 f_M_downs dX7_after_188 ?_
                            refine lv_iload hx hb dX7_after_191 (lv_at hl 6 rfl) ?_
                            refine lv_iconst (v := 1) hx hb dX7_after_193 (by decide) ?_
                            refine lv_iadd hx hb dX7_after_194 ?_
                            obtain ⟨hb_38, hF⟩ := hF
                            refine ldB S hK hP (k := 43) rfl hb_38 dX7_after_195 ?_
                            refine lv_lmul hx hb dX7_after_196 ?_
                            refine lv_goto (tgt := 201) hx hb dX7_after_197 (by decide) ?_
                            refine lv_ladd hx hb dX7_after_201 ?_
                            obtain ⟨hb_40, hF⟩ := hF
                            refine stB S hK had hP hS (k := 46) rfl hb_40 dX7_after_202 (fun M_39 H locs eM_39 hP hS => ?_)
                            have hF := hF M_39 eM_39
                            refine lv_iinc (v := (x8_104 + 1)) (lv' := [(8, .int (x8_104 + 1)), (0, .ref (ad 32)), (1, .int a1), (3, .int a3), (4, .int a4), (5, .long x5_95), (7, .int x7_95)]) hx hb dX7_after_203 hl (k := 6) rfl rfl (by decide) rfl (fun ls hl => ?_)
                            refine lv_goto (tgt := 104) hx hb dX7_after_206 (by decide) ?_
                            exact hJ_104 _ _ hF _ _ _ hP hS (lv_sub hl [1, 2, 3, 4, 5, 6, 0] rfl)
                    exact key_104 _ _ hF _ _ _ hP hS (lv_sub hl [1, 2, 3, 4, 5, 6, 0] rfl)
                exact key_95 _ _ _ hF _ _ _ hP hS (lv_sub hl [2, 3, 5, 6, 1, 0] rfl)
              · have hF := hF.2 c_11
                refine lv_aload_n hx hb dX7_after_65 rfl (lv_at hl 0 rfl) ?_
                refine gF S hK hP i7 e_M rfl 28 (by decide) k47 f_M_now dX7_after_66 ?_
                refine lv_iload hx hb dX7_after_69 (lv_at hl 5 rfl) ?_
                refine lv_iload hx hb dX7_after_71 (lv_at hl 5 rfl) ?_
                refine lv_iload_n hx hb dX7_after_73 rfl (lv_at hl 2 rfl) ?_
                refine lv_icmp_ne (tgt := 81) hx hb dX7_after_74 (by decide) (fun c_41 => ?_) (fun c_41 => ?_)
                · have hF := hF.2 c_41
                  refine lv_lconst (v := 0) hx hb dX7_after_81 (by decide) ?_
                  obtain ⟨hb_43, hF⟩ := hF
                  refine stB S hK had hP hS (k := 45) rfl hb_43 dX7_after_82 (fun M_42 H locs eM_42 hP hS => ?_)
                  have hF := hF M_42 eM_42
                  refine lv_iinc (v := (x5_58 + 1)) (lv' := [(5, .int (x5_58 + 1)), (0, .ref (ad 32)), (1, .int a1), (2, .int a2), (3, .int a3), (4, .int a4)]) hx hb dX7_after_83 hl (k := 5) rfl rfl (by decide) rfl (fun ls hl => ?_)
                  refine lv_goto (tgt := 58) hx hb dX7_after_86 (by decide) ?_
                  exact hJ_58 _ _ hF _ _ _ hP hS (lv_sub hl [1, 2, 3, 4, 5, 0] rfl)
                · have hF := hF.1 c_41
                  refine lv_lconst (v := 1) hx hb dX7_after_77 (by decide) ?_
                  refine lv_goto (tgt := 82) hx hb dX7_after_78 (by decide) ?_
                  obtain ⟨hb_45, hF⟩ := hF
                  refine stB S hK had hP hS (k := 45) rfl hb_45 dX7_after_82 (fun M_44 H locs eM_44 hP hS => ?_)
                  have hF := hF M_44 eM_44
                  refine lv_iinc (v := (x5_58 + 1)) (lv' := [(5, .int (x5_58 + 1)), (0, .ref (ad 32)), (1, .int a1), (2, .int a2), (3, .int a3), (4, .int a4)]) hx hb dX7_after_83 hl (k := 5) rfl rfl (by decide) rfl (fun ls hl => ?_)
                  refine lv_goto (tgt := 58) hx hb dX7_after_86 (by decide) ?_
                  exact hJ_58 _ _ hF _ _ _ hP hS (lv_sub hl [1, 2, 3, 4, 5, 0] rfl)
            exact key_58 _ _ hF _ _ _ hP hS (lv_sub hl [1, 2, 3, 4, 5, 0] rfl)
          · have hF := hF.1 c_9
            refine lv_ldc2 (v := -9223372036854775808) hx hb hown (hts (.constantLong RX7 78 (-9223372036854775808)) (by decide +kernel)) dX7_after_43 ?_
            exact retL S hr hlocks hP hS hF dX7_after_46
def wX7_minutes (a1 : Int32) (a2 : Int32) (Q : Int64 → Mm → Prop) (M : Mm) : Prop := (wX7_within a1 (0 : Int32) (5 : Int32) (fun r_1 M_1 => ((r_1 = 0 → (Q (-9223372036854775808 : Int64) M_1)) ∧ (¬ r_1 = 0 → (wX7_within a2 (0 : Int32) (2 : Int32) (fun r_3 M_3 => ((r_3 = 0 → (Q (-9223372036854775808 : Int64) M_3)) ∧ (¬ r_3 = 0 → (((gi M_3 28) = 0 → (Q (-9223372036854775808 : Int64) M_3)) ∧ (¬ (gi M_3 28) = 0 → ((a2 = (2 : Int32) → (((gi M_3 33) ≤ 0 → (¬ (gi M_3 29) = 0 ∧ (Q ((((12 : Int32) * (a1 + (1 : Int32))) / (gi M_3 29)).toInt64) M_3))) ∧ (¬ (gi M_3 33) ≤ 0 → (wX7_toldMinutes (a1 + (1 : Int32)) (gi M_3 33) (gi M_3 34) (fun r_11 M_11 => (Q (r_11.toInt64) M_11)) M_3)))) ∧ (¬ a2 = (2 : Int32) → (wX7_share ((12 : Int64) * ((a1 + (1 : Int32)).toInt64)) ((gi M_3 29).toInt64) (fun M_7 => (wX7_told a2 (fun r_8 M_8 => (Q r_8 M_8)) M_7)) M_3)))))))) M_1)))) M)
set_option maxHeartbeats 4000000 in
set_option maxRecDepth 100000 in
theorem ctX7_minutes (l : Launch) (D : va_G) (cI cJ : ClassId) (ad : Nat → Nat) (had : inj54 ad) (a1 : Int32) (a2 : Int32) (Q : Int64 → Mm → Prop) (M : Mm) (hF : wX7_minutes a1 a2 Q M) : Met l yX7_minutes wsX7_minutes ({ frames := 2, cells := 0, slots := 0, locals := 55 } : Room) (PcW D cI cJ ad M [.ref (ad 32), .int a1, .int a2]) (QlW D cI cJ ad Q) 0 0 (Fr ad) := by
  refine entW (y := yX7_minutes) (ret := some .long) (maxL := 3) (plainFor_of_name (by decide)) rfl (Nat.le_of_ble_eq_true rfl) ?_
  intro p e s m args below meth c ls S hK hr hlocks hP hS hl
  have hx := S.1
  have hb := S.2.1
  have hown := S.2.2.2.1
  have hts := S.2.2.2.2
  have i7 : ∀ w ∈ wsX70, w ∈ wsX7_minutes := by decide +kernel
  have k142 := hts (.fieldLink RX7 142 "RopeLineModel" "isPlace" "Z") (by decide +kernel)
  have k146 := hts (.fieldLink RX7 146 "RopeLineModel" "served" "I") (by decide +kernel)
  have k158 := hts (.fieldLink RX7 158 "RopeLineModel" "step" "I") (by decide +kernel)
  have k161 := hts (.fieldLink RX7 161 "RopeLineModel" "lie" "I") (by decide +kernel)
  have hl : lv_has ls 3 [(0, .ref (ad 32)), (1, .int a1), (2, .int a2)] := hl
  unfold wX7_minutes at hF
  refine lv_iload_n hx hb dX7_minutes_0 rfl (lv_at hl 1 rfl) ?_
  refine lv_iconst (v := 0) hx hb dX7_minutes_1 (by decide) ?_
  refine lv_iconst (v := 5) hx hb dX7_minutes_2 (by decide) ?_
  refine goZ (rS (rest := []) S hK hP (ctX7_within l D cI cJ ad had a1 (0 : Int32) (5 : Int32) _ _ hF) (va_cwS 3 hts gX7_minutes_X7_within rfl rfl rfl hdS_X7_within ⟨Nat.le_of_ble_eq_true rfl, Nat.le_of_ble_eq_true rfl⟩) rfl hl.1 rfl (Nat.le_of_ble_eq_true rfl) dX7_minutes_3 ⟨Nat.zero_le _, Nat.zero_le _⟩) hS (fun _ h => h) (fun r_1 M_1 H locs hP hS hz_r_1 hF => ?_)
  refine lv_if_eq (tgt := 25) hx hb dX7_minutes_6 (by decide) (fun c_2 => ?_) (fun c_2 => ?_)
  · have hF := hF.1 c_2
    refine lv_ldc2 (v := -9223372036854775808) hx hb hown (hts (.constantLong RX7 78 (-9223372036854775808)) (by decide +kernel)) dX7_minutes_25 ?_
    exact retL S hr hlocks hP hS hF dX7_minutes_28
  · have hF := hF.2 c_2
    refine lv_iload_n hx hb dX7_minutes_9 rfl (lv_at hl 2 rfl) ?_
    refine lv_iconst (v := 0) hx hb dX7_minutes_10 (by decide) ?_
    refine lv_iconst (v := 2) hx hb dX7_minutes_11 (by decide) ?_
    refine goZ (rS (rest := []) S hK hP (ctX7_within l D cI cJ ad had a2 (0 : Int32) (2 : Int32) _ _ hF) (va_cwS 3 hts gX7_minutes_X7_within rfl rfl rfl hdS_X7_within ⟨Nat.le_of_ble_eq_true rfl, Nat.le_of_ble_eq_true rfl⟩) rfl hl.1 rfl (Nat.le_of_ble_eq_true rfl) dX7_minutes_12 ⟨Nat.zero_le _, Nat.zero_le _⟩) hS (fun _ h => h) (fun r_3 M_3 H locs hP hS hz_r_3 hF => ?_)
    refine lv_if_eq (tgt := 25) hx hb dX7_minutes_15 (by decide) (fun c_4 => ?_) (fun c_4 => ?_)
    · have hF := hF.1 c_4
      refine lv_ldc2 (v := -9223372036854775808) hx hb hown (hts (.constantLong RX7 78 (-9223372036854775808)) (by decide +kernel)) dX7_minutes_25 ?_
      exact retL S hr hlocks hP hS hF dX7_minutes_28
    · have hF := hF.2 c_4
      refine lv_aload_n hx hb dX7_minutes_18 rfl (lv_at hl 0 rfl) ?_
      refine gF S hK hP i7 e_M rfl 7 (by decide) k142 f_M_isPlace dX7_minutes_19 ?_
      refine lv_if_ne (tgt := 29) hx hb dX7_minutes_22 (by decide) (fun c_5 => ?_) (fun c_5 => ?_)
      · have hF := hF.2 c_5
        refine lv_iload_n hx hb dX7_minutes_29 rfl (lv_at hl 2 rfl) ?_
        refine lv_iconst (v := 2) hx hb dX7_minutes_30 (by decide) ?_
        refine lv_icmp_ne (tgt := 73) hx hb dX7_minutes_31 (by decide) (fun c_6 => ?_) (fun c_6 => ?_)
        · have hF := hF.2 c_6
          refine lv_aload_n hx hb dX7_minutes_73 rfl (lv_at hl 0 rfl) ?_
          refine lv_ldc2 (v := 12) hx hb hown (hts (.constantLong RX7 188 (12)) (by decide +kernel)) dX7_minutes_74 ?_
          refine lv_iload_n hx hb dX7_minutes_77 rfl (lv_at hl 1 rfl) ?_
          refine lv_iconst (v := 1) hx hb dX7_minutes_78 (by decide) ?_
          refine lv_iadd hx hb dX7_minutes_79 ?_
          refine lv_i2l hx hb dX7_minutes_80 rfl ?_
          refine lv_lmul hx hb dX7_minutes_81 ?_
          refine lv_aload_n hx hb dX7_minutes_82 rfl (lv_at hl 0 rfl) ?_
          refine gF S hK hP i7 e_M rfl 8 (by decide) k146 f_M_served dX7_minutes_83 ?_
          refine lv_i2l hx hb dX7_minutes_86 rfl ?_
          refine goV (rV (rest := []) S hK hP (ctX7_share l D cI cJ ad had ((12 : Int64) * ((a1 + (1 : Int32)).toInt64)) ((gi M_3 29).toInt64) _ _ hF) (cwV 2 hts gX7_minutes_X7_share rfl rfl rfl hdV_X7_share ⟨Nat.le_of_ble_eq_true rfl, Nat.le_of_ble_eq_true rfl⟩) e_M rfl rfl hl.1 rfl (Nat.le_of_ble_eq_true rfl) dX7_minutes_87 ⟨Nat.zero_le _, Nat.zero_le _⟩) hS (fun _ h => h) (fun M_7 H locs hP hS hF => ?_)
          refine lv_aload_n hx hb dX7_minutes_90 rfl (lv_at hl 0 rfl) ?_
          refine lv_iload_n hx hb dX7_minutes_91 rfl (lv_at hl 2 rfl) ?_
          refine goL (rV (rest := []) S hK hP (ctX7_told l D cI cJ ad had a2 _ _ hF) (cwV 1 hts gX7_minutes_X7_told rfl rfl rfl hdV_X7_told ⟨Nat.le_of_ble_eq_true rfl, Nat.le_of_ble_eq_true rfl⟩) e_M rfl rfl hl.1 rfl (Nat.le_of_ble_eq_true rfl) dX7_minutes_92 ⟨Nat.zero_le _, Nat.zero_le _⟩) hS (fun _ h => h) (fun r_8 M_8 H locs hP hS hF => ?_)
          exact retL S hr hlocks hP hS hF dX7_minutes_95
        · have hF := hF.1 c_6
          refine lv_aload_n hx hb dX7_minutes_34 rfl (lv_at hl 0 rfl) ?_
          refine gF S hK hP i7 e_M rfl 15 (by decide) k158 f_M_step dX7_minutes_35 ?_
          refine lv_if_le (tgt := 60) hx hb dX7_minutes_38 (by decide) (fun c_9 => ?_) (fun c_9 => ?_)
          · have hF := hF.1 c_9
            refine lv_bipush (v := 12) hx hb dX7_minutes_60 (by decide) ?_
            refine lv_iload_n hx hb dX7_minutes_62 rfl (lv_at hl 1 rfl) ?_
            refine lv_iconst (v := 1) hx hb dX7_minutes_63 (by decide) ?_
            refine lv_iadd hx hb dX7_minutes_64 ?_
            refine lv_imul hx hb dX7_minutes_65 ?_
            refine lv_aload_n hx hb dX7_minutes_66 rfl (lv_at hl 0 rfl) ?_
            refine gF S hK hP i7 e_M rfl 8 (by decide) k146 f_M_served dX7_minutes_67 ?_
            obtain ⟨hz_10, hF⟩ := hF
            refine lv_idiv hx hb dX7_minutes_70 hz_10 ?_
            refine lv_i2l hx hb dX7_minutes_71 rfl ?_
            exact retL S hr hlocks hP hS hF dX7_minutes_72
          · have hF := hF.2 c_9
            refine lv_aload_n hx hb dX7_minutes_41 rfl (lv_at hl 0 rfl) ?_
            refine lv_iload_n hx hb dX7_minutes_42 rfl (lv_at hl 1 rfl) ?_
            refine lv_iconst (v := 1) hx hb dX7_minutes_43 (by decide) ?_
            refine lv_iadd hx hb dX7_minutes_44 ?_
            refine lv_aload_n hx hb dX7_minutes_45 rfl (lv_at hl 0 rfl) ?_
            refine gF S hK hP i7 e_M rfl 15 (by decide) k158 f_M_step dX7_minutes_46 ?_
            refine lv_aload_n hx hb dX7_minutes_49 rfl (lv_at hl 0 rfl) ?_
            refine gF S hK hP i7 e_M rfl 16 (by decide) k161 f_M_lie dX7_minutes_50 ?_
            refine goI (rV (rest := []) S hK hP (ctX7_toldMinutes l D cI cJ ad had (a1 + (1 : Int32)) (gi M_3 33) (gi M_3 34) _ _ hF) (cwV 3 hts gX7_minutes_X7_toldMinutes rfl rfl rfl hdV_X7_toldMinutes ⟨Nat.le_of_ble_eq_true rfl, Nat.le_of_ble_eq_true rfl⟩) e_M rfl rfl hl.1 rfl (Nat.le_of_ble_eq_true rfl) dX7_minutes_53 ⟨Nat.zero_le _, Nat.zero_le _⟩) hS (fun _ h => h) (fun r_11 M_11 H locs hP hS hF => ?_)
            refine lv_i2l hx hb dX7_minutes_56 rfl ?_
            refine lv_goto (tgt := 72) hx hb dX7_minutes_57 (by decide) ?_
            exact retL S hr hlocks hP hS hF dX7_minutes_72
      · have hF := hF.1 c_5
        refine lv_ldc2 (v := -9223372036854775808) hx hb hown (hts (.constantLong RX7 78 (-9223372036854775808)) (by decide +kernel)) dX7_minutes_25 ?_
        exact retL S hr hlocks hP hS hF dX7_minutes_28
def bX7_layGain_25 (k1_ : Nat) (x2_10 : Int64) (x4_10 : Int32) (Q : Mm → Prop) (J_10 : Int64 → Int32 → Mm → Prop) (J_25 : Int64 → Int32 → Mm → Prop) (x5_25 : Int64) (x7_25 : Int32) (m25 : Mm) : Prop := (vp_in x4_10 (lenA k1_) ∧ (((ga m25 k1_ x4_10.toNatClampNeg) ≤ x7_25 → (vp_in x4_10 3 ∧ (vp_in x4_10 3 ∧ (J_10 (x2_10 + ((((ga m25 36 x4_10.toNatClampNeg).toInt64) * ((ga m25 37 x4_10.toNatClampNeg).toInt64)) * x5_25)) (x4_10 + 1) m25)))) ∧ (¬ (ga m25 k1_ x4_10.toNatClampNeg) ≤ x7_25 → (wX7_metAt x7_25 (fun r_10 M_10 => (J_25 (x5_25 + r_10) (x7_25 + 1) M_10)) m25))))
def lX7_layGain_25 (k1_ : Nat) (x2_10 : Int64) (x4_10 : Int32) (Q : Mm → Prop) (J_10 : Int64 → Int32 → Mm → Prop) (x5_25 : Int64) (x7_25 : Int32) (m25 : Mm) : Prop := ∀ I : Int64 → Int32 → Mm → Prop, (∀ J : Int64 → Int32 → Mm → Prop, (∀ (x5_25 : Int64) (x7_25 : Int32) (m : Mm), J x5_25 x7_25 m → I x5_25 x7_25 m) → ∀ (x5_25 : Int64) (x7_25 : Int32) (m : Mm), bX7_layGain_25 k1_ x2_10 x4_10 Q J_10 J x5_25 x7_25 m → I x5_25 x7_25 m) → I x5_25 x7_25 m25
theorem lX7_layGain_25_mk (k1_ : Nat) (x2_10 : Int64) (x4_10 : Int32) (Q : Mm → Prop) (J_10 : Int64 → Int32 → Mm → Prop) (x5_25 : Int64) (x7_25 : Int32) (m25 : Mm) (h : bX7_layGain_25 k1_ x2_10 x4_10 Q J_10 (lX7_layGain_25 k1_ x2_10 x4_10 Q J_10) x5_25 x7_25 m25) : lX7_layGain_25 k1_ x2_10 x4_10 Q J_10 x5_25 x7_25 m25 := fun I hI => hI (lX7_layGain_25 k1_ x2_10 x4_10 Q J_10) (fun _ _ _ q => q I hI) _ _ _ h
def bX7_layGain_10 (k1_ : Nat) (Q : Mm → Prop) (J_10 : Int64 → Int32 → Mm → Prop) (x2_10 : Int64) (x4_10 : Int32) (m10 : Mm) : Prop := (((gi m10 31) ≤ x4_10 → (wX7_meanWeights (fun r_3 M_3 => (wX7_allWeights (fun r_4 M_4 => (wX7_share (x2_10 - (((144 : Int64) * ((gi m10 30).toInt64)) * r_3)) ((144 : Int64) * r_4) (fun M_5 => (Q M_5)) M_4)) M_3)) m10)) ∧ (¬ (gi m10 31) ≤ x4_10 → (lX7_layGain_25 k1_ x2_10 x4_10 Q J_10 (0 : Int64) (0 : Int32) m10)))
def lX7_layGain_10 (k1_ : Nat) (Q : Mm → Prop) (x2_10 : Int64) (x4_10 : Int32) (m10 : Mm) : Prop := ∀ I : Int64 → Int32 → Mm → Prop, (∀ J : Int64 → Int32 → Mm → Prop, (∀ (x2_10 : Int64) (x4_10 : Int32) (m : Mm), J x2_10 x4_10 m → I x2_10 x4_10 m) → ∀ (x2_10 : Int64) (x4_10 : Int32) (m : Mm), bX7_layGain_10 k1_ Q J x2_10 x4_10 m → I x2_10 x4_10 m) → I x2_10 x4_10 m10
theorem lX7_layGain_10_mk (k1_ : Nat) (Q : Mm → Prop) (x2_10 : Int64) (x4_10 : Int32) (m10 : Mm) (h : bX7_layGain_10 k1_ Q (lX7_layGain_10 k1_ Q) x2_10 x4_10 m10) : lX7_layGain_10 k1_ Q x2_10 x4_10 m10 := fun I hI => hI (lX7_layGain_10 k1_ Q) (fun _ _ _ q => q I hI) _ _ _ h
def wX7_layGain (k1_ : Nat) (Q : Mm → Prop) (M : Mm) : Prop := (wX7_layRun k1_ (fun M_1 => (lX7_layGain_10 k1_ Q (0 : Int64) (0 : Int32) M_1)) M)
set_option maxHeartbeats 4000000 in
set_option maxRecDepth 100000 in
theorem ctX7_layGain (l : Launch) (D : va_G) (cI cJ : ClassId) (ad : Nat → Nat) (had : inj54 ad) (k1_ : Nat) (hk1_ : isA k1_ = true) (Q : Mm → Prop) (M : Mm) (hF : wX7_layGain k1_ Q M) : Met l yX7_layGain wsX7_layGain ({ frames := 2, cells := 0, slots := 0, locals := 55 } : Room) (PcW D cI cJ ad M [.ref (ad 32), .ref (ad k1_)]) (QvW D cI cJ ad Q) 0 0 (Fr ad) := by
  refine entW (y := yX7_layGain) (ret := none) (maxL := 8) (plainFor_of_name (by decide)) rfl (Nat.le_of_ble_eq_true rfl) ?_
  intro p e s m args below meth c ls S hK hr hlocks hP hS hl
  have hx := S.1
  have hb := S.2.1
  have hown := S.2.2.2.1
  have hts := S.2.2.2.2
  have i7 : ∀ w ∈ wsX70, w ∈ wsX7_layGain := by decide +kernel
  have k152 := hts (.fieldLink RX7 152 "RopeLineModel" "sorts" "I") (by decide +kernel)
  have k149 := hts (.fieldLink RX7 149 "RopeLineModel" "cost" "I") (by decide +kernel)
  have k19 := hts (.fieldLink RX7 19 "RopeLineModel" "twelfths" "[I") (by decide +kernel)
  have k22 := hts (.fieldLink RX7 22 "RopeLineModel" "worths" "[I") (by decide +kernel)
  have hl : lv_has ls 8 [(0, .ref (ad 32)), (1, .ref (ad k1_))] := hl
  unfold wX7_layGain at hF
  refine lv_aload_n hx hb dX7_layGain_0 rfl (lv_at hl 0 rfl) ?_
  refine lv_aload_n hx hb dX7_layGain_1 rfl (lv_at hl 1 rfl) ?_
  refine goV (rV (rest := []) S hK hP (ctX7_layRun l D cI cJ ad had k1_ hk1_ _ _ hF) (cwV 1 hts gX7_layGain_X7_layRun rfl rfl rfl hdV_X7_layRun ⟨Nat.le_of_ble_eq_true rfl, Nat.le_of_ble_eq_true rfl⟩) e_M rfl rfl hl.1 rfl (Nat.le_of_ble_eq_true rfl) dX7_layGain_2 ⟨Nat.zero_le _, Nat.zero_le _⟩) hS (fun _ h => h) (fun M_1 H locs hP hS hF => ?_)
  refine lv_lconst (v := 0) hx hb dX7_layGain_5 (by decide) ?_
  refine lv_lstore_n (lv' := [(2, .long (0 : Int64)), (0, .ref (ad 32)), (1, .ref (ad k1_))]) hx hb dX7_layGain_6 rfl hl (by decide) rfl (fun ls hl => ?_)
  refine lv_iconst (v := 0) hx hb dX7_layGain_7 (by decide) ?_
  refine lv_istore (lv' := [(4, .int (0 : Int32)), (2, .long (0 : Int64)), (0, .ref (ad 32)), (1, .ref (ad k1_))]) hx hb dX7_layGain_8 hl (by decide) rfl (fun ls hl => ?_)
  have key_10 : ∀ (x2_10 : Int64) (x4_10 : Int32) (m10 : Mm), (lX7_layGain_10 k1_ Q x2_10 x4_10 m10) → Wc p l e ({ frames := 2, cells := 0, slots := 0, locals := 55 } : Room) s m args below meth c D cI cJ ad (MQ below (QvW D cI cJ ad Q) args s 0 0 (Fr ad)) 8 10 [(0, .ref (ad 32)), (1, .ref (ad k1_)), (2, .long x2_10), (4, .int x4_10)] m10 := by
    intro x2_10 x4_10 m10 hL
    refine hL (fun x2_10 x4_10 m10 => Wc p l e ({ frames := 2, cells := 0, slots := 0, locals := 55 } : Room) s m args below meth c D cI cJ ad (MQ below (QvW D cI cJ ad Q) args s 0 0 (Fr ad)) 8 10 [(0, .ref (ad 32)), (1, .ref (ad k1_)), (2, .long x2_10), (4, .int x4_10)] m10) ?_
    intro J_10 hJ_10 x2_10 x4_10 m10 hF H locs ls hP hS hl
    unfold bX7_layGain_10 at hF
    refine lv_iload hx hb dX7_layGain_10 (lv_at hl 3 rfl) ?_
    refine lv_aload_n hx hb dX7_layGain_12 rfl (lv_at hl 0 rfl) ?_
    refine gF S hK hP i7 e_M rfl 10 (by decide) k152 f_M_sorts dX7_layGain_13 ?_
    refine lv_icmp_ge (tgt := 80) hx hb dX7_layGain_16 (by decide) (fun c_2 => ?_) (fun c_2 => ?_)
    · have hF := hF.1 c_2
      refine lv_aload_n hx hb dX7_layGain_80 rfl (lv_at hl 0 rfl) ?_
      refine lv_lload_n hx hb dX7_layGain_81 rfl (lv_at hl 2 rfl) ?_
      refine lv_ldc2 (v := 144) hx hb hown (hts (.constantLong RX7 218 (144)) (by decide +kernel)) dX7_layGain_82 ?_
      refine lv_aload_n hx hb dX7_layGain_85 rfl (lv_at hl 0 rfl) ?_
      refine gF S hK hP i7 e_M rfl 9 (by decide) k149 f_M_cost dX7_layGain_86 ?_
      refine lv_i2l hx hb dX7_layGain_89 rfl ?_
      refine lv_lmul hx hb dX7_layGain_90 ?_
      refine lv_aload_n hx hb dX7_layGain_91 rfl (lv_at hl 0 rfl) ?_
      refine goL (rV (rest := [.long ((144 : Int64) * ((gi m10 30).toInt64)), .long x2_10, .ref (ad 32)]) S hK hP (ctX7_meanWeights l D cI cJ ad had  _ _ hF) (cwV 0 hts gX7_layGain_X7_meanWeights rfl rfl rfl hdV_X7_meanWeights ⟨Nat.le_of_ble_eq_true rfl, Nat.le_of_ble_eq_true rfl⟩) e_M rfl rfl hl.1 rfl (Nat.le_of_ble_eq_true rfl) dX7_layGain_92 ⟨Nat.zero_le _, Nat.zero_le _⟩) hS (fun _ h => h) (fun r_3 M_3 H locs hP hS hF => ?_)
      refine lv_lmul hx hb dX7_layGain_95 ?_
      refine lv_lsub hx hb dX7_layGain_96 ?_
      refine lv_ldc2 (v := 144) hx hb hown (hts (.constantLong RX7 218 (144)) (by decide +kernel)) dX7_layGain_97 ?_
      refine lv_aload_n hx hb dX7_layGain_100 rfl (lv_at hl 0 rfl) ?_
      refine goL (rV (rest := [.long (144 : Int64), .long (x2_10 - (((144 : Int64) * ((gi m10 30).toInt64)) * r_3)), .ref (ad 32)]) S hK hP (ctX7_allWeights l D cI cJ ad had  _ _ hF) (cwV 0 hts gX7_layGain_X7_allWeights rfl rfl rfl hdV_X7_allWeights ⟨Nat.le_of_ble_eq_true rfl, Nat.le_of_ble_eq_true rfl⟩) e_M rfl rfl hl.1 rfl (Nat.le_of_ble_eq_true rfl) dX7_layGain_101 ⟨Nat.zero_le _, Nat.zero_le _⟩) hS (fun _ h => h) (fun r_4 M_4 H locs hP hS hF => ?_)
      refine lv_lmul hx hb dX7_layGain_104 ?_
      refine goV (rV (rest := []) S hK hP (ctX7_share l D cI cJ ad had (x2_10 - (((144 : Int64) * ((gi m10 30).toInt64)) * r_3)) ((144 : Int64) * r_4) _ _ hF) (cwV 2 hts gX7_layGain_X7_share rfl rfl rfl hdV_X7_share ⟨Nat.le_of_ble_eq_true rfl, Nat.le_of_ble_eq_true rfl⟩) e_M rfl rfl hl.1 rfl (Nat.le_of_ble_eq_true rfl) dX7_layGain_105 ⟨Nat.zero_le _, Nat.zero_le _⟩) hS (fun _ h => h) (fun M_5 H locs hP hS hF => ?_)
      exact retV S hr hlocks hP hS hF dX7_layGain_108
    · have hF := hF.2 c_2
      refine lv_lconst (v := 0) hx hb dX7_layGain_19 (by decide) ?_
      refine lv_lstore (lv' := [(5, .long (0 : Int64)), (0, .ref (ad 32)), (1, .ref (ad k1_)), (2, .long x2_10), (4, .int x4_10)]) hx hb dX7_layGain_20 hl (by decide) rfl (fun ls hl => ?_)
      refine lv_iconst (v := 0) hx hb dX7_layGain_22 (by decide) ?_
      refine lv_istore (lv' := [(7, .int (0 : Int32)), (5, .long (0 : Int64)), (0, .ref (ad 32)), (1, .ref (ad k1_)), (2, .long x2_10), (4, .int x4_10)]) hx hb dX7_layGain_23 hl (by decide) rfl (fun ls hl => ?_)
      have key_25 : ∀ (x5_25 : Int64) (x7_25 : Int32) (m25 : Mm), (lX7_layGain_25 k1_ x2_10 x4_10 Q J_10 x5_25 x7_25 m25) → Wc p l e ({ frames := 2, cells := 0, slots := 0, locals := 55 } : Room) s m args below meth c D cI cJ ad (MQ below (QvW D cI cJ ad Q) args s 0 0 (Fr ad)) 8 25 [(0, .ref (ad 32)), (1, .ref (ad k1_)), (2, .long x2_10), (4, .int x4_10), (5, .long x5_25), (7, .int x7_25)] m25 := by
        intro x5_25 x7_25 m25 hL
        refine hL (fun x5_25 x7_25 m25 => Wc p l e ({ frames := 2, cells := 0, slots := 0, locals := 55 } : Room) s m args below meth c D cI cJ ad (MQ below (QvW D cI cJ ad Q) args s 0 0 (Fr ad)) 8 25 [(0, .ref (ad 32)), (1, .ref (ad k1_)), (2, .long x2_10), (4, .int x4_10), (5, .long x5_25), (7, .int x7_25)] m25) ?_
        intro J_25 hJ_25 x5_25 x7_25 m25 hF H locs ls hP hS hl
        unfold bX7_layGain_25 at hF
        refine lv_iload hx hb dX7_layGain_25 (lv_at hl 5 rfl) ?_
        refine lv_aload_n hx hb dX7_layGain_27 rfl (lv_at hl 1 rfl) ?_
        refine lv_iload hx hb dX7_layGain_28 (lv_at hl 3 rfl) ?_
        obtain ⟨hb_6, hF⟩ := hF
        refine ldA S hK hP (k := k1_) hk1_ hb_6 dX7_layGain_30 ?_
        refine lv_icmp_ge (tgt := 51) hx hb dX7_layGain_31 (by decide) (fun c_7 => ?_) (fun c_7 => ?_)
        · have hF := hF.1 c_7
          refine lv_lload_n hx hb dX7_layGain_51 rfl (lv_at hl 2 rfl) ?_
          refine lv_aload_n hx hb dX7_layGain_52 rfl (lv_at hl 0 rfl) ?_
          refine gF S hK hP i7 e_M rfl 11 (by decide) k19 f_M_twelfths dX7_layGain_53 ?_
          refine lv_iload hx hb dX7_layGain_56 (lv_at hl 3 rfl) ?_
          obtain ⟨hb_8, hF⟩ := hF
          refine ldA S hK hP (k := 36) rfl hb_8 dX7_layGain_58 ?_
          refine lv_i2l hx hb dX7_layGain_59 rfl ?_
          refine lv_aload_n hx hb dX7_layGain_60 rfl (lv_at hl 0 rfl) ?_
          refine gF S hK hP i7 e_M rfl 12 (by decide) k22 f_M_worths dX7_layGain_61 ?_
          refine lv_iload hx hb dX7_layGain_64 (lv_at hl 3 rfl) ?_
          obtain ⟨hb_9, hF⟩ := hF
          refine ldA S hK hP (k := 37) rfl hb_9 dX7_layGain_66 ?_
          refine lv_i2l hx hb dX7_layGain_67 rfl ?_
          refine lv_lmul hx hb dX7_layGain_68 ?_
          refine lv_lload hx hb dX7_layGain_69 (lv_at hl 4 rfl) ?_
          refine lv_lmul hx hb dX7_layGain_71 ?_
          refine lv_ladd hx hb dX7_layGain_72 ?_
          refine lv_lstore_n (lv' := [(2, .long (x2_10 + ((((ga m25 36 x4_10.toNatClampNeg).toInt64) * ((ga m25 37 x4_10.toNatClampNeg).toInt64)) * x5_25))), (0, .ref (ad 32)), (1, .ref (ad k1_)), (4, .int x4_10), (5, .long x5_25), (7, .int x7_25)]) hx hb dX7_layGain_73 rfl hl (by decide) rfl (fun ls hl => ?_)
          refine lv_iinc (v := (x4_10 + 1)) (lv' := [(4, .int (x4_10 + 1)), (2, .long (x2_10 + ((((ga m25 36 x4_10.toNatClampNeg).toInt64) * ((ga m25 37 x4_10.toNatClampNeg).toInt64)) * x5_25))), (0, .ref (ad 32)), (1, .ref (ad k1_)), (5, .long x5_25), (7, .int x7_25)]) hx hb dX7_layGain_74 hl (k := 3) rfl rfl (by decide) rfl (fun ls hl => ?_)
          refine lv_goto (tgt := 10) hx hb dX7_layGain_77 (by decide) ?_
          exact hJ_10 _ _ _ hF _ _ _ hP hS (lv_sub hl [2, 3, 1, 0] rfl)
        · have hF := hF.2 c_7
          refine lv_lload hx hb dX7_layGain_34 (lv_at hl 4 rfl) ?_
          refine lv_aload_n hx hb dX7_layGain_36 rfl (lv_at hl 0 rfl) ?_
          refine lv_iload hx hb dX7_layGain_37 (lv_at hl 5 rfl) ?_
          refine goL (rV (rest := [.long x5_25]) S hK hP (ctX7_metAt l D cI cJ ad had x7_25 _ _ hF) (cwV 1 hts gX7_layGain_X7_metAt rfl rfl rfl hdV_X7_metAt ⟨Nat.le_of_ble_eq_true rfl, Nat.le_of_ble_eq_true rfl⟩) e_M rfl rfl hl.1 rfl (Nat.le_of_ble_eq_true rfl) dX7_layGain_39 ⟨Nat.zero_le _, Nat.zero_le _⟩) hS (fun _ h => h) (fun r_10 M_10 H locs hP hS hF => ?_)
          refine lv_ladd hx hb dX7_layGain_42 ?_
          refine lv_lstore (lv' := [(5, .long (x5_25 + r_10)), (0, .ref (ad 32)), (1, .ref (ad k1_)), (2, .long x2_10), (4, .int x4_10), (7, .int x7_25)]) hx hb dX7_layGain_43 hl (by decide) rfl (fun ls hl => ?_)
          refine lv_iinc (v := (x7_25 + 1)) (lv' := [(7, .int (x7_25 + 1)), (5, .long (x5_25 + r_10)), (0, .ref (ad 32)), (1, .ref (ad k1_)), (2, .long x2_10), (4, .int x4_10)]) hx hb dX7_layGain_45 hl (k := 5) rfl rfl (by decide) rfl (fun ls hl => ?_)
          refine lv_goto (tgt := 25) hx hb dX7_layGain_48 (by decide) ?_
          exact hJ_25 _ _ _ hF _ _ _ hP hS (lv_sub hl [2, 3, 4, 5, 1, 0] rfl)
      exact key_25 _ _ _ hF _ _ _ hP hS (lv_sub hl [2, 3, 4, 5, 1, 0] rfl)
  exact key_10 _ _ _ hF _ _ _ hP hS (lv_sub hl [2, 3, 1, 0] rfl)
def wX7_gain (a1 : Int32) (Q : Int64 → Mm → Prop) (M : Mm) : Prop := (wX7_isWhich a1 (fun r_1 M_1 => ((r_1 = 0 → (Q (-9223372036854775808 : Int64) M_1)) ∧ (¬ r_1 = 0 → (((gi M_1 28) = 0 → (Q (-9223372036854775808 : Int64) M_1)) ∧ (¬ (gi M_1 28) = 0 → (wX7_layGain 38 (fun M_4 => (wX7_told a1 (fun r_5 M_5 => (Q r_5 M_5)) M_4)) M_1)))))) M)
set_option maxHeartbeats 4000000 in
set_option maxRecDepth 100000 in
theorem ctX7_gain (l : Launch) (D : va_G) (cI cJ : ClassId) (ad : Nat → Nat) (had : inj54 ad) (a1 : Int32) (Q : Int64 → Mm → Prop) (M : Mm) (hF : wX7_gain a1 Q M) : Met l yX7_gain wsX7_gain ({ frames := 3, cells := 0, slots := 0, locals := 82 } : Room) (PcW D cI cJ ad M [.ref (ad 32), .int a1]) (QlW D cI cJ ad Q) 0 0 (Fr ad) := by
  refine entW (y := yX7_gain) (ret := some .long) (maxL := 2) (plainFor_of_name (by decide)) rfl (Nat.le_of_ble_eq_true rfl) ?_
  intro p e s m args below meth c ls S hK hr hlocks hP hS hl
  have hx := S.1
  have hb := S.2.1
  have hown := S.2.2.2.1
  have hts := S.2.2.2.2
  have i7 : ∀ w ∈ wsX70, w ∈ wsX7_gain := by decide +kernel
  have k142 := hts (.fieldLink RX7 142 "RopeLineModel" "isPlace" "Z") (by decide +kernel)
  have k25 := hts (.fieldLink RX7 25 "RopeLineModel" "bars" "[I") (by decide +kernel)
  have hl : lv_has ls 2 [(0, .ref (ad 32)), (1, .int a1)] := hl
  unfold wX7_gain at hF
  refine lv_iload_n hx hb dX7_gain_0 rfl (lv_at hl 1 rfl) ?_
  refine goZ (rS (rest := []) S hK hP (ctX7_isWhich l D cI cJ ad had a1 _ _ hF) (va_cwS 1 hts gX7_gain_X7_isWhich rfl rfl rfl hdS_X7_isWhich ⟨Nat.le_of_ble_eq_true rfl, Nat.le_of_ble_eq_true rfl⟩) rfl hl.1 rfl (Nat.le_of_ble_eq_true rfl) dX7_gain_1 ⟨Nat.zero_le _, Nat.zero_le _⟩) hS (fun _ h => h) (fun r_1 M_1 H locs hP hS hz_r_1 hF => ?_)
  refine lv_if_eq (tgt := 14) hx hb dX7_gain_4 (by decide) (fun c_2 => ?_) (fun c_2 => ?_)
  · have hF := hF.1 c_2
    refine lv_ldc2 (v := -9223372036854775808) hx hb hown (hts (.constantLong RX7 78 (-9223372036854775808)) (by decide +kernel)) dX7_gain_14 ?_
    exact retL S hr hlocks hP hS hF dX7_gain_17
  · have hF := hF.2 c_2
    refine lv_aload_n hx hb dX7_gain_7 rfl (lv_at hl 0 rfl) ?_
    refine gF S hK hP i7 e_M rfl 7 (by decide) k142 f_M_isPlace dX7_gain_8 ?_
    refine lv_if_ne (tgt := 18) hx hb dX7_gain_11 (by decide) (fun c_3 => ?_) (fun c_3 => ?_)
    · have hF := hF.2 c_3
      refine lv_aload_n hx hb dX7_gain_18 rfl (lv_at hl 0 rfl) ?_
      refine lv_aload_n hx hb dX7_gain_19 rfl (lv_at hl 0 rfl) ?_
      refine gF S hK hP i7 e_M rfl 13 (by decide) k25 f_M_bars dX7_gain_20 ?_
      refine goV (rV (rest := []) S hK hP (ctX7_layGain l D cI cJ ad had 38 rfl _ _ hF) (cwV 1 hts gX7_gain_X7_layGain rfl rfl rfl hdV_X7_layGain ⟨Nat.le_of_ble_eq_true rfl, Nat.le_of_ble_eq_true rfl⟩) e_M rfl rfl hl.1 rfl (Nat.le_of_ble_eq_true rfl) dX7_gain_23 ⟨Nat.zero_le _, Nat.zero_le _⟩) hS (fun _ h => h) (fun M_4 H locs hP hS hF => ?_)
      refine lv_aload_n hx hb dX7_gain_26 rfl (lv_at hl 0 rfl) ?_
      refine lv_iload_n hx hb dX7_gain_27 rfl (lv_at hl 1 rfl) ?_
      refine goL (rV (rest := []) S hK hP (ctX7_told l D cI cJ ad had a1 _ _ hF) (cwV 1 hts gX7_gain_X7_told rfl rfl rfl hdV_X7_told ⟨Nat.le_of_ble_eq_true rfl, Nat.le_of_ble_eq_true rfl⟩) e_M rfl rfl hl.1 rfl (Nat.le_of_ble_eq_true rfl) dX7_gain_28 ⟨Nat.zero_le _, Nat.zero_le _⟩) hS (fun _ h => h) (fun r_5 M_5 H locs hP hS hF => ?_)
      exact retL S hr hlocks hP hS hF dX7_gain_31
    · have hF := hF.1 c_3
      refine lv_ldc2 (v := -9223372036854775808) hx hb hown (hts (.constantLong RX7 78 (-9223372036854775808)) (by decide +kernel)) dX7_gain_14 ?_
      exact retL S hr hlocks hP hS hF dX7_gain_17
def wX7_allRows (Q : Int32 → Mm → Prop) (M : Mm) : Prop := (((gi M 31) = 0 → (Q (1 : Int32) M)) ∧ (¬ (gi M 31) = 0 → (((gi M 31) = (1 : Int32) → (Q (6 : Int32) M)) ∧ (¬ (gi M 31) = (1 : Int32) → (((gi M 31) = (2 : Int32) → (Q (36 : Int32) M)) ∧ (¬ (gi M 31) = (2 : Int32) → (Q (216 : Int32) M)))))))
set_option maxHeartbeats 4000000 in
set_option maxRecDepth 100000 in
theorem ctX7_allRows (l : Launch) (D : va_G) (cI cJ : ClassId) (ad : Nat → Nat) (had : inj54 ad)  (Q : Int32 → Mm → Prop) (M : Mm) (hF : wX7_allRows Q M) : Met l yX7_allRows wsX7_allRows ({ frames := 0, cells := 0, slots := 0, locals := 0 } : Room) (PcW D cI cJ ad M [.ref (ad 32)]) (QiW D cI cJ ad Q) 0 0 (Fr ad) := by
  refine entW (y := yX7_allRows) (ret := some .int) (maxL := 1) (plainFor_of_name (by decide)) rfl (Nat.le_of_ble_eq_true rfl) ?_
  intro p e s m args below meth c ls S hK hr hlocks hP hS hl
  have hx := S.1
  have hb := S.2.1
  have hown := S.2.2.2.1
  have hts := S.2.2.2.2
  have i7 : ∀ w ∈ wsX70, w ∈ wsX7_allRows := by decide +kernel
  have k152 := hts (.fieldLink RX7 152 "RopeLineModel" "sorts" "I") (by decide +kernel)
  have hl : lv_has ls 1 [(0, .ref (ad 32))] := hl
  unfold wX7_allRows at hF
  refine lv_aload_n hx hb dX7_allRows_0 rfl (lv_at hl 0 rfl) ?_
  refine gF S hK hP i7 e_M rfl 10 (by decide) k152 f_M_sorts dX7_allRows_1 ?_
  refine lv_if_ne (tgt := 11) hx hb dX7_allRows_4 (by decide) (fun c_1 => ?_) (fun c_1 => ?_)
  · have hF := hF.2 c_1
    refine lv_aload_n hx hb dX7_allRows_11 rfl (lv_at hl 0 rfl) ?_
    refine gF S hK hP i7 e_M rfl 10 (by decide) k152 f_M_sorts dX7_allRows_12 ?_
    refine lv_iconst (v := 1) hx hb dX7_allRows_15 (by decide) ?_
    refine lv_icmp_ne (tgt := 24) hx hb dX7_allRows_16 (by decide) (fun c_2 => ?_) (fun c_2 => ?_)
    · have hF := hF.2 c_2
      refine lv_aload_n hx hb dX7_allRows_24 rfl (lv_at hl 0 rfl) ?_
      refine gF S hK hP i7 e_M rfl 10 (by decide) k152 f_M_sorts dX7_allRows_25 ?_
      refine lv_iconst (v := 2) hx hb dX7_allRows_28 (by decide) ?_
      refine lv_icmp_ne (tgt := 37) hx hb dX7_allRows_29 (by decide) (fun c_3 => ?_) (fun c_3 => ?_)
      · have hF := hF.2 c_3
        refine lv_sipush (v := 216) hx hb dX7_allRows_37 (by decide) ?_
        exact retI S hr hlocks hP hS hF dX7_allRows_40
      · have hF := hF.1 c_3
        refine lv_bipush (v := 36) hx hb dX7_allRows_32 (by decide) ?_
        refine lv_goto (tgt := 40) hx hb dX7_allRows_34 (by decide) ?_
        exact retI S hr hlocks hP hS hF dX7_allRows_40
    · have hF := hF.1 c_2
      refine lv_bipush (v := 6) hx hb dX7_allRows_19 (by decide) ?_
      refine lv_goto (tgt := 40) hx hb dX7_allRows_21 (by decide) ?_
      exact retI S hr hlocks hP hS hF dX7_allRows_40
  · have hF := hF.1 c_1
    refine lv_iconst (v := 1) hx hb dX7_allRows_7 (by decide) ?_
    refine lv_goto (tgt := 40) hx hb dX7_allRows_8 (by decide) ?_
    exact retI S hr hlocks hP hS hF dX7_allRows_40
def bX7_layRow_9 (Q : Mm → Prop) (J_9 : Int32 → Int32 → Mm → Prop) (x2_9 : Int32) (x3_9 : Int32) (m9 : Mm) : Prop := ((x3_9 < 0 → (Q m9)) ∧ (¬ x3_9 < 0 → (vp_in x3_9 3 ∧ (∀ M_2 : Mm, M_2 = (sa m9 47 (upd (ga m9 47) x3_9.toNatClampNeg (x2_9 - x2_9 / (6 : Int32) * (6 : Int32)))) → (J_9 (x2_9 / (6 : Int32)) (x3_9 + (-1)) M_2)))))
def lX7_layRow_9 (Q : Mm → Prop) (x2_9 : Int32) (x3_9 : Int32) (m9 : Mm) : Prop := ∀ I : Int32 → Int32 → Mm → Prop, (∀ J : Int32 → Int32 → Mm → Prop, (∀ (x2_9 : Int32) (x3_9 : Int32) (m : Mm), J x2_9 x3_9 m → I x2_9 x3_9 m) → ∀ (x2_9 : Int32) (x3_9 : Int32) (m : Mm), bX7_layRow_9 Q J x2_9 x3_9 m → I x2_9 x3_9 m) → I x2_9 x3_9 m9
theorem lX7_layRow_9_mk (Q : Mm → Prop) (x2_9 : Int32) (x3_9 : Int32) (m9 : Mm) (h : bX7_layRow_9 Q (lX7_layRow_9 Q) x2_9 x3_9 m9) : lX7_layRow_9 Q x2_9 x3_9 m9 := fun I hI => hI (lX7_layRow_9 Q) (fun _ _ _ q => q I hI) _ _ _ h
def wX7_layRow (a1 : Int32) (Q : Mm → Prop) (M : Mm) : Prop := (lX7_layRow_9 Q a1 ((gi M 31) - (1 : Int32)) M)
set_option maxHeartbeats 4000000 in
set_option maxRecDepth 100000 in
theorem ctX7_layRow (l : Launch) (D : va_G) (cI cJ : ClassId) (ad : Nat → Nat) (had : inj54 ad) (a1 : Int32) (Q : Mm → Prop) (M : Mm) (hF : wX7_layRow a1 Q M) : Met l yX7_layRow wsX7_layRow ({ frames := 0, cells := 0, slots := 0, locals := 0 } : Room) (PcW D cI cJ ad M [.ref (ad 32), .int a1]) (QvW D cI cJ ad Q) 0 0 (Fr ad) := by
  refine entW (y := yX7_layRow) (ret := none) (maxL := 4) (plainFor_of_name (by decide)) rfl (Nat.le_of_ble_eq_true rfl) ?_
  intro p e s m args below meth c ls S hK hr hlocks hP hS hl
  have hx := S.1
  have hb := S.2.1
  have hown := S.2.2.2.1
  have hts := S.2.2.2.2
  have i7 : ∀ w ∈ wsX70, w ∈ wsX7_layRow := by decide +kernel
  have k152 := hts (.fieldLink RX7 152 "RopeLineModel" "sorts" "I") (by decide +kernel)
  have k53 := hts (.fieldLink RX7 53 "RopeLineModel" "row" "[I") (by decide +kernel)
  have hl : lv_has ls 4 [(0, .ref (ad 32)), (1, .int a1)] := hl
  unfold wX7_layRow at hF
  refine lv_iload_n hx hb dX7_layRow_0 rfl (lv_at hl 1 rfl) ?_
  refine lv_istore_n (lv' := [(2, .int a1), (0, .ref (ad 32)), (1, .int a1)]) hx hb dX7_layRow_1 rfl hl (by decide) rfl (fun ls hl => ?_)
  refine lv_aload_n hx hb dX7_layRow_2 rfl (lv_at hl 1 rfl) ?_
  refine gF S hK hP i7 e_M rfl 10 (by decide) k152 f_M_sorts dX7_layRow_3 ?_
  refine lv_iconst (v := 1) hx hb dX7_layRow_6 (by decide) ?_
  refine lv_isub hx hb dX7_layRow_7 ?_
  refine lv_istore_n (lv' := [(3, .int ((gi M 31) - (1 : Int32))), (2, .int a1), (0, .ref (ad 32)), (1, .int a1)]) hx hb dX7_layRow_8 rfl hl (by decide) rfl (fun ls hl => ?_)
  have key_9 : ∀ (x2_9 : Int32) (x3_9 : Int32) (m9 : Mm), (lX7_layRow_9 Q x2_9 x3_9 m9) → Wc p l e ({ frames := 0, cells := 0, slots := 0, locals := 0 } : Room) s m args below meth c D cI cJ ad (MQ below (QvW D cI cJ ad Q) args s 0 0 (Fr ad)) 4 9 [(0, .ref (ad 32)), (2, .int x2_9), (3, .int x3_9)] m9 := by
    intro x2_9 x3_9 m9 hL
    refine hL (fun x2_9 x3_9 m9 => Wc p l e ({ frames := 0, cells := 0, slots := 0, locals := 0 } : Room) s m args below meth c D cI cJ ad (MQ below (QvW D cI cJ ad Q) args s 0 0 (Fr ad)) 4 9 [(0, .ref (ad 32)), (2, .int x2_9), (3, .int x3_9)] m9) ?_
    intro J_9 hJ_9 x2_9 x3_9 m9 hF H locs ls hP hS hl
    unfold bX7_layRow_9 at hF
    refine lv_iload_n hx hb dX7_layRow_9 rfl (lv_at hl 2 rfl) ?_
    refine lv_if_lt (tgt := 34) hx hb dX7_layRow_10 (by decide) (fun c_1 => ?_) (fun c_1 => ?_)
    · have hF := hF.1 c_1
      exact retV S hr hlocks hP hS hF dX7_layRow_34
    · have hF := hF.2 c_1
      refine lv_aload_n hx hb dX7_layRow_13 rfl (lv_at hl 0 rfl) ?_
      refine gF S hK hP i7 e_M rfl 30 (by decide) k53 f_M_row dX7_layRow_14 ?_
      refine lv_iload_n hx hb dX7_layRow_17 rfl (lv_at hl 2 rfl) ?_
      refine lv_iload_n hx hb dX7_layRow_18 rfl (lv_at hl 1 rfl) ?_
      refine lv_bipush (v := 6) hx hb dX7_layRow_19 (by decide) ?_
      refine lv_irem hx hb dX7_layRow_21 (by decide) ?_
      obtain ⟨hb_3, hF⟩ := hF
      refine stA S hK had hP hS (k := 47) rfl hb_3 dX7_layRow_22 (fun M_2 H locs eM_2 hP hS => ?_)
      have hF := hF M_2 eM_2
      refine lv_iload_n hx hb dX7_layRow_23 rfl (lv_at hl 1 rfl) ?_
      refine lv_bipush (v := 6) hx hb dX7_layRow_24 (by decide) ?_
      refine lv_idiv hx hb dX7_layRow_26 (by decide) ?_
      refine lv_istore_n (lv' := [(2, .int (x2_9 / (6 : Int32))), (0, .ref (ad 32)), (3, .int x3_9)]) hx hb dX7_layRow_27 rfl hl (by decide) rfl (fun ls hl => ?_)
      refine lv_iinc (v := (x3_9 + (-1))) (lv' := [(3, .int (x3_9 + (-1))), (2, .int (x2_9 / (6 : Int32))), (0, .ref (ad 32))]) hx hb dX7_layRow_28 hl (k := 2) rfl rfl (by decide) rfl (fun ls hl => ?_)
      refine lv_goto (tgt := 9) hx hb dX7_layRow_31 (by decide) ?_
      exact hJ_9 _ _ _ hF _ _ _ hP hS (lv_sub hl [2, 1, 0] rfl)
  exact key_9 _ _ _ hF _ _ _ hP hS (lv_sub hl [2, 1, 0] rfl)
def bX7_findBest_64 (x5_7 : Int32) (y1_64 : Int64) (y3_64 : Int64) (Q : Mm → Prop) (J_7 : Int64 → Int64 → Int32 → Mm → Prop) (J_64 : Int32 → Mm → Prop) (x6_64 : Int32) (m64 : Mm) : Prop := (((gi m64 31) ≤ x6_64 → (J_7 y1_64 y3_64 (x5_7 + 1) m64)) ∧ (¬ (gi m64 31) ≤ x6_64 → (vp_in x6_64 3 ∧ (vp_in x6_64 3 ∧ (∀ M_8 : Mm, M_8 = (sa m64 48 (upd (ga m64 48) x6_64.toNatClampNeg (ga m64 47 x6_64.toNatClampNeg))) → (J_64 (x6_64 + 1) M_8))))))
def lX7_findBest_64 (x5_7 : Int32) (y1_64 : Int64) (y3_64 : Int64) (Q : Mm → Prop) (J_7 : Int64 → Int64 → Int32 → Mm → Prop) (x6_64 : Int32) (m64 : Mm) : Prop := ∀ I : Int32 → Mm → Prop, (∀ J : Int32 → Mm → Prop, (∀ (x6_64 : Int32) (m : Mm), J x6_64 m → I x6_64 m) → ∀ (x6_64 : Int32) (m : Mm), bX7_findBest_64 x5_7 y1_64 y3_64 Q J_7 J x6_64 m → I x6_64 m) → I x6_64 m64
theorem lX7_findBest_64_mk (x5_7 : Int32) (y1_64 : Int64) (y3_64 : Int64) (Q : Mm → Prop) (J_7 : Int64 → Int64 → Int32 → Mm → Prop) (x6_64 : Int32) (m64 : Mm) (h : bX7_findBest_64 x5_7 y1_64 y3_64 Q J_7 (lX7_findBest_64 x5_7 y1_64 y3_64 Q J_7) x6_64 m64) : lX7_findBest_64 x5_7 y1_64 y3_64 Q J_7 x6_64 m64 := fun I hI => hI (lX7_findBest_64 x5_7 y1_64 y3_64 Q J_7) (fun _ _ q => q I hI) _ _ h
def bX7_findBest_7 (Q : Mm → Prop) (J_7 : Int64 → Int64 → Int32 → Mm → Prop) (x1_7 : Int64) (x3_7 : Int64) (x5_7 : Int32) (m7 : Mm) : Prop := (wX7_allRows (fun r_1 M_1 => ((r_1 ≤ x5_7 → (Q M_1)) ∧ (¬ r_1 ≤ x5_7 → (wX7_layRow x5_7 (fun M_3 => (wX7_layGain 47 (fun M_4 => ((x5_7 = 0 → (lX7_findBest_64 x5_7 (gj M_4 4) (gj M_4 5) Q J_7 (0 : Int32) M_4)) ∧ (¬ x5_7 = 0 → (wX7_compare (gj M_4 4) (gj M_4 5) x1_7 x3_7 (fun r_10 M_10 => ((r_10 ≤ 0 → (J_7 x1_7 x3_7 (x5_7 + 1) M_10)) ∧ (¬ r_10 ≤ 0 → (lX7_findBest_64 x5_7 (gj M_10 4) (gj M_10 5) Q J_7 (0 : Int32) M_10)))) M_4)))) M_3)) M_1)))) m7)
def lX7_findBest_7 (Q : Mm → Prop) (x1_7 : Int64) (x3_7 : Int64) (x5_7 : Int32) (m7 : Mm) : Prop := ∀ I : Int64 → Int64 → Int32 → Mm → Prop, (∀ J : Int64 → Int64 → Int32 → Mm → Prop, (∀ (x1_7 : Int64) (x3_7 : Int64) (x5_7 : Int32) (m : Mm), J x1_7 x3_7 x5_7 m → I x1_7 x3_7 x5_7 m) → ∀ (x1_7 : Int64) (x3_7 : Int64) (x5_7 : Int32) (m : Mm), bX7_findBest_7 Q J x1_7 x3_7 x5_7 m → I x1_7 x3_7 x5_7 m) → I x1_7 x3_7 x5_7 m7
theorem lX7_findBest_7_mk (Q : Mm → Prop) (x1_7 : Int64) (x3_7 : Int64) (x5_7 : Int32) (m7 : Mm) (h : bX7_findBest_7 Q (lX7_findBest_7 Q) x1_7 x3_7 x5_7 m7) : lX7_findBest_7 Q x1_7 x3_7 x5_7 m7 := fun I hI => hI (lX7_findBest_7 Q) (fun _ _ _ _ q => q I hI) _ _ _ _ h
def wX7_findBest (Q : Mm → Prop) (M : Mm) : Prop := (lX7_findBest_7 Q (0 : Int64) (1 : Int64) (0 : Int32) M)
set_option maxHeartbeats 4000000 in
set_option maxRecDepth 100000 in
theorem ctX7_findBest (l : Launch) (D : va_G) (cI cJ : ClassId) (ad : Nat → Nat) (had : inj54 ad)  (Q : Mm → Prop) (M : Mm) (hF : wX7_findBest Q M) : Met l yX7_findBest wsX7_findBest ({ frames := 3, cells := 0, slots := 0, locals := 82 } : Room) (PcW D cI cJ ad M [.ref (ad 32)]) (QvW D cI cJ ad Q) 0 0 (Fr ad) := by
  refine entW (y := yX7_findBest) (ret := none) (maxL := 7) (plainFor_of_name (by decide)) rfl (Nat.le_of_ble_eq_true rfl) ?_
  intro p e s m args below meth c ls S hK hr hlocks hP hS hl
  have hx := S.1
  have hb := S.2.1
  have hown := S.2.2.2.1
  have hts := S.2.2.2.2
  have i7 : ∀ w ∈ wsX70, w ∈ wsX7_findBest := by decide +kernel
  have k53 := hts (.fieldLink RX7 53 "RopeLineModel" "row" "[I") (by decide +kernel)
  have k84 := hts (.fieldLink RX7 84 "RopeLineModel" "up" "J") (by decide +kernel)
  have k88 := hts (.fieldLink RX7 88 "RopeLineModel" "down" "J") (by decide +kernel)
  have k152 := hts (.fieldLink RX7 152 "RopeLineModel" "sorts" "I") (by decide +kernel)
  have k56 := hts (.fieldLink RX7 56 "RopeLineModel" "bestRow" "[I") (by decide +kernel)
  have hl : lv_has ls 7 [(0, .ref (ad 32))] := hl
  unfold wX7_findBest at hF
  refine lv_lconst (v := 0) hx hb dX7_findBest_0 (by decide) ?_
  refine lv_lstore_n (lv' := [(1, .long (0 : Int64)), (0, .ref (ad 32))]) hx hb dX7_findBest_1 rfl hl (by decide) rfl (fun ls hl => ?_)
  refine lv_lconst (v := 1) hx hb dX7_findBest_2 (by decide) ?_
  refine lv_lstore_n (lv' := [(3, .long (1 : Int64)), (1, .long (0 : Int64)), (0, .ref (ad 32))]) hx hb dX7_findBest_3 rfl hl (by decide) rfl (fun ls hl => ?_)
  refine lv_iconst (v := 0) hx hb dX7_findBest_4 (by decide) ?_
  refine lv_istore (lv' := [(5, .int (0 : Int32)), (3, .long (1 : Int64)), (1, .long (0 : Int64)), (0, .ref (ad 32))]) hx hb dX7_findBest_5 hl (by decide) rfl (fun ls hl => ?_)
  have key_7 : ∀ (x1_7 : Int64) (x3_7 : Int64) (x5_7 : Int32) (m7 : Mm), (lX7_findBest_7 Q x1_7 x3_7 x5_7 m7) → Wc p l e ({ frames := 3, cells := 0, slots := 0, locals := 82 } : Room) s m args below meth c D cI cJ ad (MQ below (QvW D cI cJ ad Q) args s 0 0 (Fr ad)) 7 7 [(0, .ref (ad 32)), (1, .long x1_7), (3, .long x3_7), (5, .int x5_7)] m7 := by
    intro x1_7 x3_7 x5_7 m7 hL
    refine hL (fun x1_7 x3_7 x5_7 m7 => Wc p l e ({ frames := 3, cells := 0, slots := 0, locals := 82 } : Room) s m args below meth c D cI cJ ad (MQ below (QvW D cI cJ ad Q) args s 0 0 (Fr ad)) 7 7 [(0, .ref (ad 32)), (1, .long x1_7), (3, .long x3_7), (5, .int x5_7)] m7) ?_
    intro J_7 hJ_7 x1_7 x3_7 x5_7 m7 hF H locs ls hP hS hl
    unfold bX7_findBest_7 at hF
    refine lv_iload hx hb dX7_findBest_7 (lv_at hl 3 rfl) ?_
    refine lv_aload_n hx hb dX7_findBest_9 rfl (lv_at hl 0 rfl) ?_
    refine goI (rV (rest := [.int x5_7]) S hK hP (ctX7_allRows l D cI cJ ad had  _ _ hF) (cwV 0 hts gX7_findBest_X7_allRows rfl rfl rfl hdV_X7_allRows ⟨Nat.le_of_ble_eq_true rfl, Nat.le_of_ble_eq_true rfl⟩) e_M rfl rfl hl.1 rfl (Nat.le_of_ble_eq_true rfl) dX7_findBest_10 ⟨Nat.zero_le _, Nat.zero_le _⟩) hS (fun _ h => h) (fun r_1 M_1 H locs hP hS hF => ?_)
    refine lv_icmp_ge (tgt := 99) hx hb dX7_findBest_13 (by decide) (fun c_2 => ?_) (fun c_2 => ?_)
    · have hF := hF.1 c_2
      exact retV S hr hlocks hP hS hF dX7_findBest_99
    · have hF := hF.2 c_2
      refine lv_aload_n hx hb dX7_findBest_16 rfl (lv_at hl 0 rfl) ?_
      refine lv_iload hx hb dX7_findBest_17 (lv_at hl 3 rfl) ?_
      refine goV (rV (rest := []) S hK hP (ctX7_layRow l D cI cJ ad had x5_7 _ _ hF) (cwV 1 hts gX7_findBest_X7_layRow rfl rfl rfl hdV_X7_layRow ⟨Nat.le_of_ble_eq_true rfl, Nat.le_of_ble_eq_true rfl⟩) e_M rfl rfl hl.1 rfl (Nat.le_of_ble_eq_true rfl) dX7_findBest_19 ⟨Nat.zero_le _, Nat.zero_le _⟩) hS (fun _ h => h) (fun M_3 H locs hP hS hF => ?_)
      refine lv_aload_n hx hb dX7_findBest_22 rfl (lv_at hl 0 rfl) ?_
      refine lv_aload_n hx hb dX7_findBest_23 rfl (lv_at hl 0 rfl) ?_
      refine gF S hK hP i7 e_M rfl 30 (by decide) k53 f_M_row dX7_findBest_24 ?_
      refine goV (rV (rest := []) S hK hP (ctX7_layGain l D cI cJ ad had 47 rfl _ _ hF) (cwV 1 hts gX7_findBest_X7_layGain rfl rfl rfl hdV_X7_layGain ⟨Nat.le_of_ble_eq_true rfl, Nat.le_of_ble_eq_true rfl⟩) e_M rfl rfl hl.1 rfl (Nat.le_of_ble_eq_true rfl) dX7_findBest_27 ⟨Nat.zero_le _, Nat.zero_le _⟩) hS (fun _ h => h) (fun M_4 H locs hP hS hF => ?_)
      refine lv_iload hx hb dX7_findBest_30 (lv_at hl 3 rfl) ?_
      refine lv_if_eq (tgt := 51) hx hb dX7_findBest_32 (by decide) (fun c_5 => ?_) (fun c_5 => ?_)
      · have hF := hF.1 c_5
        refine lv_aload_n hx hb dX7_findBest_51 rfl (lv_at hl 0 rfl) ?_
        refine gF S hK hP i7 e_M rfl 2 (by decide) k84 f_M_up dX7_findBest_52 ?_
        refine lv_lstore_n (lv' := [(1, .long (gj M_4 4)), (0, .ref (ad 32)), (3, .long x3_7), (5, .int x5_7)]) hx hb dX7_findBest_55 rfl hl (by decide) rfl (fun ls hl => ?_)
        refine lv_aload_n hx hb dX7_findBest_56 rfl (lv_at hl 1 rfl) ?_
        refine gF S hK hP i7 e_M rfl 3 (by decide) k88 f_M_down dX7_findBest_57 ?_
        refine lv_lstore_n (lv' := [(3, .long (gj M_4 5)), (1, .long (gj M_4 4)), (0, .ref (ad 32)), (5, .int x5_7)]) hx hb dX7_findBest_60 rfl hl (by decide) rfl (fun ls hl => ?_)
        refine lv_iconst (v := 0) hx hb dX7_findBest_61 (by decide) ?_
        refine lv_istore (lv' := [(6, .int (0 : Int32)), (3, .long (gj M_4 5)), (1, .long (gj M_4 4)), (0, .ref (ad 32)), (5, .int x5_7)]) hx hb dX7_findBest_62 hl (by decide) rfl (fun ls hl => ?_)
        have key_64 : ∀ (y1_64 : Int64) (y3_64 : Int64) (x6_64 : Int32) (m64 : Mm), (lX7_findBest_64 x5_7 y1_64 y3_64 Q J_7 x6_64 m64) → Wc p l e ({ frames := 3, cells := 0, slots := 0, locals := 82 } : Room) s m args below meth c D cI cJ ad (MQ below (QvW D cI cJ ad Q) args s 0 0 (Fr ad)) 7 64 [(0, .ref (ad 32)), (1, .long y1_64), (3, .long y3_64), (5, .int x5_7), (6, .int x6_64)] m64 := by
          intro y1_64 y3_64 x6_64 m64 hL
          refine hL (fun x6_64 m64 => Wc p l e ({ frames := 3, cells := 0, slots := 0, locals := 82 } : Room) s m args below meth c D cI cJ ad (MQ below (QvW D cI cJ ad Q) args s 0 0 (Fr ad)) 7 64 [(0, .ref (ad 32)), (1, .long y1_64), (3, .long y3_64), (5, .int x5_7), (6, .int x6_64)] m64) ?_
          intro J_64 hJ_64 x6_64 m64 hF H locs ls hP hS hl
          unfold bX7_findBest_64 at hF
          refine lv_iload hx hb dX7_findBest_64 (lv_at hl 4 rfl) ?_
          refine lv_aload_n hx hb dX7_findBest_66 rfl (lv_at hl 0 rfl) ?_
          refine gF S hK hP i7 e_M rfl 10 (by decide) k152 f_M_sorts dX7_findBest_67 ?_
          refine lv_icmp_ge (tgt := 93) hx hb dX7_findBest_70 (by decide) (fun c_6 => ?_) (fun c_6 => ?_)
          · have hF := hF.1 c_6
            refine lv_iinc (v := (x5_7 + 1)) (lv' := [(5, .int (x5_7 + 1)), (0, .ref (ad 32)), (1, .long y1_64), (3, .long y3_64), (6, .int x6_64)]) hx hb dX7_findBest_93 hl (k := 3) rfl rfl (by decide) rfl (fun ls hl => ?_)
            refine lv_goto (tgt := 7) hx hb dX7_findBest_96 (by decide) ?_
            exact hJ_7 _ _ _ _ hF _ _ _ hP hS (lv_sub hl [1, 2, 3, 0] rfl)
          · have hF := hF.2 c_6
            refine lv_aload_n hx hb dX7_findBest_73 rfl (lv_at hl 0 rfl) ?_
            refine gF S hK hP i7 e_M rfl 31 (by decide) k56 f_M_bestRow dX7_findBest_74 ?_
            refine lv_iload hx hb dX7_findBest_77 (lv_at hl 4 rfl) ?_
            refine lv_aload_n hx hb dX7_findBest_79 rfl (lv_at hl 0 rfl) ?_
            refine gF S hK hP i7 e_M rfl 30 (by decide) k53 f_M_row dX7_findBest_80 ?_
            refine lv_iload hx hb dX7_findBest_83 (lv_at hl 4 rfl) ?_
            obtain ⟨hb_7, hF⟩ := hF
            refine ldA S hK hP (k := 47) rfl hb_7 dX7_findBest_85 ?_
            obtain ⟨hb_9, hF⟩ := hF
            refine stA S hK had hP hS (k := 48) rfl hb_9 dX7_findBest_86 (fun M_8 H locs eM_8 hP hS => ?_)
            have hF := hF M_8 eM_8
            refine lv_iinc (v := (x6_64 + 1)) (lv' := [(6, .int (x6_64 + 1)), (0, .ref (ad 32)), (1, .long y1_64), (3, .long y3_64), (5, .int x5_7)]) hx hb dX7_findBest_87 hl (k := 4) rfl rfl (by decide) rfl (fun ls hl => ?_)
            refine lv_goto (tgt := 64) hx hb dX7_findBest_90 (by decide) ?_
            exact hJ_64 _ _ hF _ _ _ hP hS (lv_sub hl [1, 2, 3, 4, 0] rfl)
        exact key_64 _ _ _ _ hF _ _ _ hP hS (lv_sub hl [3, 2, 1, 4, 0] rfl)
      · have hF := hF.2 c_5
        refine lv_aload_n hx hb dX7_findBest_35 rfl (lv_at hl 0 rfl) ?_
        refine gF S hK hP i7 e_M rfl 2 (by decide) k84 f_M_up dX7_findBest_36 ?_
        refine lv_aload_n hx hb dX7_findBest_39 rfl (lv_at hl 0 rfl) ?_
        refine gF S hK hP i7 e_M rfl 3 (by decide) k88 f_M_down dX7_findBest_40 ?_
        refine lv_lload_n hx hb dX7_findBest_43 rfl (lv_at hl 1 rfl) ?_
        refine lv_lload_n hx hb dX7_findBest_44 rfl (lv_at hl 2 rfl) ?_
        refine goI (rS (rest := []) S hK hP (ctX7_compare l D cI cJ ad had (gj M_4 4) (gj M_4 5) x1_7 x3_7 _ _ hF) (va_cwS 4 hts gX7_findBest_X7_compare rfl rfl rfl hdS_X7_compare ⟨Nat.le_of_ble_eq_true rfl, Nat.le_of_ble_eq_true rfl⟩) rfl hl.1 rfl (Nat.le_of_ble_eq_true rfl) dX7_findBest_45 ⟨Nat.zero_le _, Nat.zero_le _⟩) hS (fun _ h => h) (fun r_10 M_10 H locs hP hS hF => ?_)
        refine lv_if_le (tgt := 93) hx hb dX7_findBest_48 (by decide) (fun c_11 => ?_) (fun c_11 => ?_)
        · have hF := hF.1 c_11
          refine lv_iinc (v := (x5_7 + 1)) (lv' := [(5, .int (x5_7 + 1)), (0, .ref (ad 32)), (1, .long x1_7), (3, .long x3_7)]) hx hb dX7_findBest_93 hl (k := 3) rfl rfl (by decide) rfl (fun ls hl => ?_)
          refine lv_goto (tgt := 7) hx hb dX7_findBest_96 (by decide) ?_
          exact hJ_7 _ _ _ _ hF _ _ _ hP hS (lv_sub hl [1, 2, 3, 0] rfl)
        · have hF := hF.2 c_11
          refine lv_aload_n hx hb dX7_findBest_51 rfl (lv_at hl 0 rfl) ?_
          refine gF S hK hP i7 e_M rfl 2 (by decide) k84 f_M_up dX7_findBest_52 ?_
          refine lv_lstore_n (lv' := [(1, .long (gj M_10 4)), (0, .ref (ad 32)), (3, .long x3_7), (5, .int x5_7)]) hx hb dX7_findBest_55 rfl hl (by decide) rfl (fun ls hl => ?_)
          refine lv_aload_n hx hb dX7_findBest_56 rfl (lv_at hl 1 rfl) ?_
          refine gF S hK hP i7 e_M rfl 3 (by decide) k88 f_M_down dX7_findBest_57 ?_
          refine lv_lstore_n (lv' := [(3, .long (gj M_10 5)), (1, .long (gj M_10 4)), (0, .ref (ad 32)), (5, .int x5_7)]) hx hb dX7_findBest_60 rfl hl (by decide) rfl (fun ls hl => ?_)
          refine lv_iconst (v := 0) hx hb dX7_findBest_61 (by decide) ?_
          refine lv_istore (lv' := [(6, .int (0 : Int32)), (3, .long (gj M_10 5)), (1, .long (gj M_10 4)), (0, .ref (ad 32)), (5, .int x5_7)]) hx hb dX7_findBest_62 hl (by decide) rfl (fun ls hl => ?_)
          have key_64 : ∀ (y1_64 : Int64) (y3_64 : Int64) (x6_64 : Int32) (m64 : Mm), (lX7_findBest_64 x5_7 y1_64 y3_64 Q J_7 x6_64 m64) → Wc p l e ({ frames := 3, cells := 0, slots := 0, locals := 82 } : Room) s m args below meth c D cI cJ ad (MQ below (QvW D cI cJ ad Q) args s 0 0 (Fr ad)) 7 64 [(0, .ref (ad 32)), (1, .long y1_64), (3, .long y3_64), (5, .int x5_7), (6, .int x6_64)] m64 := by
            intro y1_64 y3_64 x6_64 m64 hL
            refine hL (fun x6_64 m64 => Wc p l e ({ frames := 3, cells := 0, slots := 0, locals := 82 } : Room) s m args below meth c D cI cJ ad (MQ below (QvW D cI cJ ad Q) args s 0 0 (Fr ad)) 7 64 [(0, .ref (ad 32)), (1, .long y1_64), (3, .long y3_64), (5, .int x5_7), (6, .int x6_64)] m64) ?_
            intro J_64 hJ_64 x6_64 m64 hF H locs ls hP hS hl
            unfold bX7_findBest_64 at hF
            refine lv_iload hx hb dX7_findBest_64 (lv_at hl 4 rfl) ?_
            refine lv_aload_n hx hb dX7_findBest_66 rfl (lv_at hl 0 rfl) ?_
            refine gF S hK hP i7 e_M rfl 10 (by decide) k152 f_M_sorts dX7_findBest_67 ?_
            refine lv_icmp_ge (tgt := 93) hx hb dX7_findBest_70 (by decide) (fun c_12 => ?_) (fun c_12 => ?_)
            · have hF := hF.1 c_12
              refine lv_iinc (v := (x5_7 + 1)) (lv' := [(5, .int (x5_7 + 1)), (0, .ref (ad 32)), (1, .long y1_64), (3, .long y3_64), (6, .int x6_64)]) hx hb dX7_findBest_93 hl (k := 3) rfl rfl (by decide) rfl (fun ls hl => ?_)
              refine lv_goto (tgt := 7) hx hb dX7_findBest_96 (by decide) ?_
              exact hJ_7 _ _ _ _ hF _ _ _ hP hS (lv_sub hl [1, 2, 3, 0] rfl)
            · have hF := hF.2 c_12
              refine lv_aload_n hx hb dX7_findBest_73 rfl (lv_at hl 0 rfl) ?_
              refine gF S hK hP i7 e_M rfl 31 (by decide) k56 f_M_bestRow dX7_findBest_74 ?_
              refine lv_iload hx hb dX7_findBest_77 (lv_at hl 4 rfl) ?_
              refine lv_aload_n hx hb dX7_findBest_79 rfl (lv_at hl 0 rfl) ?_
              refine gF S hK hP i7 e_M rfl 30 (by decide) k53 f_M_row dX7_findBest_80 ?_
              refine lv_iload hx hb dX7_findBest_83 (lv_at hl 4 rfl) ?_
              obtain ⟨hb_13, hF⟩ := hF
              refine ldA S hK hP (k := 47) rfl hb_13 dX7_findBest_85 ?_
              obtain ⟨hb_15, hF⟩ := hF
              refine stA S hK had hP hS (k := 48) rfl hb_15 dX7_findBest_86 (fun M_14 H locs eM_14 hP hS => ?_)
              have hF := hF M_14 eM_14
              refine lv_iinc (v := (x6_64 + 1)) (lv' := [(6, .int (x6_64 + 1)), (0, .ref (ad 32)), (1, .long y1_64), (3, .long y3_64), (5, .int x5_7)]) hx hb dX7_findBest_87 hl (k := 4) rfl rfl (by decide) rfl (fun ls hl => ?_)
              refine lv_goto (tgt := 64) hx hb dX7_findBest_90 (by decide) ?_
              exact hJ_64 _ _ hF _ _ _ hP hS (lv_sub hl [1, 2, 3, 4, 0] rfl)
          exact key_64 _ _ _ _ hF _ _ _ hP hS (lv_sub hl [3, 2, 1, 4, 0] rfl)
  exact key_7 _ _ _ _ hF _ _ _ hP hS (lv_sub hl [3, 2, 1, 0] rfl)
def wX7_best (a1 : Int32) (Q : Int32 → Mm → Prop) (M : Mm) : Prop := (wX7_isSort a1 (fun r_1 M_1 => ((r_1 = 0 → (Q (-1 : Int32) M_1)) ∧ (¬ r_1 = 0 → (wX7_findBest (fun M_3 => (vp_in a1 3 ∧ (Q (ga M_3 48 a1.toNatClampNeg) M_3))) M_1)))) M)
set_option maxHeartbeats 4000000 in
set_option maxRecDepth 100000 in
theorem ctX7_best (l : Launch) (D : va_G) (cI cJ : ClassId) (ad : Nat → Nat) (had : inj54 ad) (a1 : Int32) (Q : Int32 → Mm → Prop) (M : Mm) (hF : wX7_best a1 Q M) : Met l yX7_best wsX7_best ({ frames := 4, cells := 0, slots := 0, locals := 108 } : Room) (PcW D cI cJ ad M [.ref (ad 32), .int a1]) (QiW D cI cJ ad Q) 0 0 (Fr ad) := by
  refine entW (y := yX7_best) (ret := some .int) (maxL := 2) (plainFor_of_name (by decide)) rfl (Nat.le_of_ble_eq_true rfl) ?_
  intro p e s m args below meth c ls S hK hr hlocks hP hS hl
  have hx := S.1
  have hb := S.2.1
  have hown := S.2.2.2.1
  have hts := S.2.2.2.2
  have i7 : ∀ w ∈ wsX70, w ∈ wsX7_best := by decide +kernel
  have k56 := hts (.fieldLink RX7 56 "RopeLineModel" "bestRow" "[I") (by decide +kernel)
  have hl : lv_has ls 2 [(0, .ref (ad 32)), (1, .int a1)] := hl
  unfold wX7_best at hF
  refine lv_aload_n hx hb dX7_best_0 rfl (lv_at hl 0 rfl) ?_
  refine lv_iload_n hx hb dX7_best_1 rfl (lv_at hl 1 rfl) ?_
  refine goZ (rV (rest := []) S hK hP (ctX7_isSort l D cI cJ ad had a1 _ _ hF) (cwV 1 hts gX7_best_X7_isSort rfl rfl rfl hdV_X7_isSort ⟨Nat.le_of_ble_eq_true rfl, Nat.le_of_ble_eq_true rfl⟩) e_M rfl rfl hl.1 rfl (Nat.le_of_ble_eq_true rfl) dX7_best_2 ⟨Nat.zero_le _, Nat.zero_le _⟩) hS (fun _ h => h) (fun r_1 M_1 H locs hP hS hz_r_1 hF => ?_)
  refine lv_if_ne (tgt := 10) hx hb dX7_best_5 (by decide) (fun c_2 => ?_) (fun c_2 => ?_)
  · have hF := hF.2 c_2
    refine lv_aload_n hx hb dX7_best_10 rfl (lv_at hl 0 rfl) ?_
    refine goV (rV (rest := []) S hK hP (ctX7_findBest l D cI cJ ad had  _ _ hF) (cwV 0 hts gX7_best_X7_findBest rfl rfl rfl hdV_X7_findBest ⟨Nat.le_of_ble_eq_true rfl, Nat.le_of_ble_eq_true rfl⟩) e_M rfl rfl hl.1 rfl (Nat.le_of_ble_eq_true rfl) dX7_best_11 ⟨Nat.zero_le _, Nat.zero_le _⟩) hS (fun _ h => h) (fun M_3 H locs hP hS hF => ?_)
    refine lv_aload_n hx hb dX7_best_14 rfl (lv_at hl 0 rfl) ?_
    refine gF S hK hP i7 e_M rfl 31 (by decide) k56 f_M_bestRow dX7_best_15 ?_
    refine lv_iload_n hx hb dX7_best_18 rfl (lv_at hl 1 rfl) ?_
    obtain ⟨hb_4, hF⟩ := hF
    refine ldA S hK hP (k := 48) rfl hb_4 dX7_best_19 ?_
    exact retI S hr hlocks hP hS hF dX7_best_20
  · have hF := hF.1 c_2
    refine lv_iconst (v := -1) hx hb dX7_best_8 (by decide) ?_
    exact retI S hr hlocks hP hS hF dX7_best_9
def bX7_bars_35 (a1 : Int32) (Q : Int32 → Mm → Prop) (J_35 : Int32 → Int32 → Mm → Prop) (x2_35 : Int32) (x3_35 : Int32) (m35 : Mm) : Prop := (((gi m35 31) ≤ x3_35 → (Q x2_35 m35)) ∧ (¬ (gi m35 31) ≤ x3_35 → ((a1 = 0 → (wX7_hisBar x3_35 (gi m35 32) (gi m35 33) (gi m35 34) (fun r_21 M_21 => (vp_in x3_35 3 ∧ (((ga M_21 38 x3_35.toNatClampNeg) = r_21 → (vp_in x3_35 3 ∧ (∀ M_26 : Mm, M_26 = (sa M_21 38 (upd (ga M_21 38) x3_35.toNatClampNeg r_21)) → (J_35 (x2_35 + (0 : Int32)) (x3_35 + 1) M_26)))) ∧ (¬ (ga M_21 38 x3_35.toNatClampNeg) = r_21 → (vp_in x3_35 3 ∧ (∀ M_24 : Mm, M_24 = (sa M_21 38 (upd (ga M_21 38) x3_35.toNatClampNeg r_21)) → (J_35 (x2_35 + (1 : Int32)) (x3_35 + 1) M_24))))))) m35)) ∧ (¬ a1 = 0 → ((a1 = (1 : Int32) → (vp_in x3_35 3 ∧ (vp_in x3_35 3 ∧ (((ga m35 38 x3_35.toNatClampNeg) = (ga m35 48 x3_35.toNatClampNeg) → (vp_in x3_35 3 ∧ (∀ M_19 : Mm, M_19 = (sa m35 38 (upd (ga m35 38) x3_35.toNatClampNeg (ga m35 48 x3_35.toNatClampNeg))) → (J_35 (x2_35 + (0 : Int32)) (x3_35 + 1) M_19)))) ∧ (¬ (ga m35 38 x3_35.toNatClampNeg) = (ga m35 48 x3_35.toNatClampNeg) → (vp_in x3_35 3 ∧ (∀ M_17 : Mm, M_17 = (sa m35 38 (upd (ga m35 38) x3_35.toNatClampNeg (ga m35 48 x3_35.toNatClampNeg))) → (J_35 (x2_35 + (1 : Int32)) (x3_35 + 1) M_17)))))))) ∧ (¬ a1 = (1 : Int32) → (vp_in x3_35 3 ∧ (((ga m35 38 x3_35.toNatClampNeg) = (5 : Int32) → (vp_in x3_35 3 ∧ (∀ M_12 : Mm, M_12 = (sa m35 38 (upd (ga m35 38) x3_35.toNatClampNeg (5 : Int32))) → (J_35 (x2_35 + (0 : Int32)) (x3_35 + 1) M_12)))) ∧ (¬ (ga m35 38 x3_35.toNatClampNeg) = (5 : Int32) → (vp_in x3_35 3 ∧ (∀ M_10 : Mm, M_10 = (sa m35 38 (upd (ga m35 38) x3_35.toNatClampNeg (5 : Int32))) → (J_35 (x2_35 + (1 : Int32)) (x3_35 + 1) M_10))))))))))))
def lX7_bars_35 (a1 : Int32) (Q : Int32 → Mm → Prop) (x2_35 : Int32) (x3_35 : Int32) (m35 : Mm) : Prop := ∀ I : Int32 → Int32 → Mm → Prop, (∀ J : Int32 → Int32 → Mm → Prop, (∀ (x2_35 : Int32) (x3_35 : Int32) (m : Mm), J x2_35 x3_35 m → I x2_35 x3_35 m) → ∀ (x2_35 : Int32) (x3_35 : Int32) (m : Mm), bX7_bars_35 a1 Q J x2_35 x3_35 m → I x2_35 x3_35 m) → I x2_35 x3_35 m35
theorem lX7_bars_35_mk (a1 : Int32) (Q : Int32 → Mm → Prop) (x2_35 : Int32) (x3_35 : Int32) (m35 : Mm) (h : bX7_bars_35 a1 Q (lX7_bars_35 a1 Q) x2_35 x3_35 m35) : lX7_bars_35 a1 Q x2_35 x3_35 m35 := fun I hI => hI (lX7_bars_35 a1 Q) (fun _ _ _ q => q I hI) _ _ _ h
def wX7_bars (a1 : Int32) (Q : Int32 → Mm → Prop) (M : Mm) : Prop := (wX7_within a1 (0 : Int32) (2 : Int32) (fun r_1 M_1 => ((r_1 = 0 → (Q (-2 : Int32) M_1)) ∧ (¬ r_1 = 0 → (((gi M_1 28) = 0 → (Q (-3 : Int32) M_1)) ∧ (¬ (gi M_1 28) = 0 → ((a1 = (1 : Int32) → (wX7_findBest (fun M_28 => (lX7_bars_35 a1 Q (0 : Int32) (0 : Int32) M_28)) M_1)) ∧ (¬ a1 = (1 : Int32) → (lX7_bars_35 a1 Q (0 : Int32) (0 : Int32) M_1)))))))) M)
set_option maxHeartbeats 4000000 in
set_option maxRecDepth 100000 in
theorem ctX7_bars (l : Launch) (D : va_G) (cI cJ : ClassId) (ad : Nat → Nat) (had : inj54 ad) (a1 : Int32) (Q : Int32 → Mm → Prop) (M : Mm) (hF : wX7_bars a1 Q M) : Met l yX7_bars wsX7_bars ({ frames := 4, cells := 0, slots := 0, locals := 108 } : Room) (PcW D cI cJ ad M [.ref (ad 32), .int a1]) (QiW D cI cJ ad Q) 0 0 (Fr ad) := by
  refine entW (y := yX7_bars) (ret := some .int) (maxL := 5) (plainFor_of_name (by decide)) rfl (Nat.le_of_ble_eq_true rfl) ?_
  intro p e s m args below meth c ls S hK hr hlocks hP hS hl
  have hx := S.1
  have hb := S.2.1
  have hown := S.2.2.2.1
  have hts := S.2.2.2.2
  have i7 : ∀ w ∈ wsX70, w ∈ wsX7_bars := by decide +kernel
  have k142 := hts (.fieldLink RX7 142 "RopeLineModel" "isPlace" "Z") (by decide +kernel)
  have k152 := hts (.fieldLink RX7 152 "RopeLineModel" "sorts" "I") (by decide +kernel)
  have k25 := hts (.fieldLink RX7 25 "RopeLineModel" "bars" "[I") (by decide +kernel)
  have k56 := hts (.fieldLink RX7 56 "RopeLineModel" "bestRow" "[I") (by decide +kernel)
  have k155 := hts (.fieldLink RX7 155 "RopeLineModel" "toll" "I") (by decide +kernel)
  have k158 := hts (.fieldLink RX7 158 "RopeLineModel" "step" "I") (by decide +kernel)
  have k161 := hts (.fieldLink RX7 161 "RopeLineModel" "lie" "I") (by decide +kernel)
  have hl : lv_has ls 5 [(0, .ref (ad 32)), (1, .int a1)] := hl
  unfold wX7_bars at hF
  refine lv_iload_n hx hb dX7_bars_0 rfl (lv_at hl 1 rfl) ?_
  refine lv_iconst (v := 0) hx hb dX7_bars_1 (by decide) ?_
  refine lv_iconst (v := 2) hx hb dX7_bars_2 (by decide) ?_
  refine goZ (rS (rest := []) S hK hP (ctX7_within l D cI cJ ad had a1 (0 : Int32) (2 : Int32) _ _ hF) (va_cwS 3 hts gX7_bars_X7_within rfl rfl rfl hdS_X7_within ⟨Nat.le_of_ble_eq_true rfl, Nat.le_of_ble_eq_true rfl⟩) rfl hl.1 rfl (Nat.le_of_ble_eq_true rfl) dX7_bars_3 ⟨Nat.zero_le _, Nat.zero_le _⟩) hS (fun _ h => h) (fun r_1 M_1 H locs hP hS hz_r_1 hF => ?_)
  refine lv_if_ne (tgt := 12) hx hb dX7_bars_6 (by decide) (fun c_2 => ?_) (fun c_2 => ?_)
  · have hF := hF.2 c_2
    refine lv_aload_n hx hb dX7_bars_12 rfl (lv_at hl 0 rfl) ?_
    refine gF S hK hP i7 e_M rfl 7 (by decide) k142 f_M_isPlace dX7_bars_13 ?_
    refine lv_if_ne (tgt := 22) hx hb dX7_bars_16 (by decide) (fun c_3 => ?_) (fun c_3 => ?_)
    · have hF := hF.2 c_3
      refine lv_iload_n hx hb dX7_bars_22 rfl (lv_at hl 1 rfl) ?_
      refine lv_iconst (v := 1) hx hb dX7_bars_23 (by decide) ?_
      refine lv_icmp_ne (tgt := 31) hx hb dX7_bars_24 (by decide) (fun c_4 => ?_) (fun c_4 => ?_)
      · have hF := hF.2 c_4
        refine lv_iconst (v := 0) hx hb dX7_bars_31 (by decide) ?_
        refine lv_istore_n (lv' := [(2, .int (0 : Int32)), (0, .ref (ad 32)), (1, .int a1)]) hx hb dX7_bars_32 rfl hl (by decide) rfl (fun ls hl => ?_)
        refine lv_iconst (v := 0) hx hb dX7_bars_33 (by decide) ?_
        refine lv_istore_n (lv' := [(3, .int (0 : Int32)), (2, .int (0 : Int32)), (0, .ref (ad 32)), (1, .int a1)]) hx hb dX7_bars_34 rfl hl (by decide) rfl (fun ls hl => ?_)
        have key_35 : ∀ (x2_35 : Int32) (x3_35 : Int32) (m35 : Mm), (lX7_bars_35 a1 Q x2_35 x3_35 m35) → Wc p l e ({ frames := 4, cells := 0, slots := 0, locals := 108 } : Room) s m args below meth c D cI cJ ad (MQ below (QiW D cI cJ ad Q) args s 0 0 (Fr ad)) 5 35 [(0, .ref (ad 32)), (1, .int a1), (2, .int x2_35), (3, .int x3_35)] m35 := by
          intro x2_35 x3_35 m35 hL
          refine hL (fun x2_35 x3_35 m35 => Wc p l e ({ frames := 4, cells := 0, slots := 0, locals := 108 } : Room) s m args below meth c D cI cJ ad (MQ below (QiW D cI cJ ad Q) args s 0 0 (Fr ad)) 5 35 [(0, .ref (ad 32)), (1, .int a1), (2, .int x2_35), (3, .int x3_35)] m35) ?_
          intro J_35 hJ_35 x2_35 x3_35 m35 hF H locs ls hP hS hl
          unfold bX7_bars_35 at hF
          refine lv_iload_n hx hb dX7_bars_35 rfl (lv_at hl 3 rfl) ?_
          refine lv_aload_n hx hb dX7_bars_36 rfl (lv_at hl 0 rfl) ?_
          refine gF S hK hP i7 e_M rfl 10 (by decide) k152 f_M_sorts dX7_bars_37 ?_
          refine lv_icmp_ge (tgt := 117) hx hb dX7_bars_40 (by decide) (fun c_5 => ?_) (fun c_5 => ?_)
          · have hF := hF.1 c_5
            refine lv_iload_n hx hb dX7_bars_117 rfl (lv_at hl 2 rfl) ?_
            exact retI S hr hlocks hP hS hF dX7_bars_118
          · have hF := hF.2 c_5
            refine lv_iload_n hx hb dX7_bars_43 rfl (lv_at hl 1 rfl) ?_
            refine lv_if_ne (tgt := 67) hx hb dX7_bars_44 (by decide) (fun c_6 => ?_) (fun c_6 => ?_)
            · have hF := hF.2 c_6
              refine lv_iload_n hx hb dX7_bars_67 rfl (lv_at hl 1 rfl) ?_
              refine lv_iconst (v := 1) hx hb dX7_bars_68 (by decide) ?_
              refine lv_icmp_ne (tgt := 81) hx hb dX7_bars_69 (by decide) (fun c_7 => ?_) (fun c_7 => ?_)
              · have hF := hF.2 c_7
                refine lv_iconst (v := 5) hx hb dX7_bars_81 (by decide) ?_
                refine lv_istore (lv' := [(4, .int (5 : Int32)), (0, .ref (ad 32)), (1, .int a1), (2, .int x2_35), (3, .int x3_35)]) hx hb dX7_bars_82 hl (by decide) rfl (fun ls hl => ?_)
                refine lv_iload_n hx hb dX7_bars_84 rfl (lv_at hl 3 rfl) ?_
                refine lv_aload_n hx hb dX7_bars_85 rfl (lv_at hl 1 rfl) ?_
                refine gF S hK hP i7 e_M rfl 13 (by decide) k25 f_M_bars dX7_bars_86 ?_
                refine lv_iload_n hx hb dX7_bars_89 rfl (lv_at hl 4 rfl) ?_
                obtain ⟨hb_8, hF⟩ := hF
                refine ldA S hK hP (k := 38) rfl hb_8 dX7_bars_90 ?_
                refine lv_iload hx hb dX7_bars_91 (lv_at hl 0 rfl) ?_
                refine lv_icmp_ne (tgt := 100) hx hb dX7_bars_93 (by decide) (fun c_9 => ?_) (fun c_9 => ?_)
                · have hF := hF.2 c_9
                  refine lv_iconst (v := 1) hx hb dX7_bars_100 (by decide) ?_
                  refine lv_iadd hx hb dX7_bars_101 ?_
                  refine lv_istore_n (lv' := [(2, .int (x2_35 + (1 : Int32))), (4, .int (5 : Int32)), (0, .ref (ad 32)), (1, .int a1), (3, .int x3_35)]) hx hb dX7_bars_102 rfl hl (by decide) rfl (fun ls hl => ?_)
                  refine lv_aload_n hx hb dX7_bars_103 rfl (lv_at hl 2 rfl) ?_
                  refine gF S hK hP i7 e_M rfl 13 (by decide) k25 f_M_bars dX7_bars_104 ?_
                  refine lv_iload_n hx hb dX7_bars_107 rfl (lv_at hl 4 rfl) ?_
                  refine lv_iload hx hb dX7_bars_108 (lv_at hl 1 rfl) ?_
                  obtain ⟨hb_11, hF⟩ := hF
                  refine stA S hK had hP hS (k := 38) rfl hb_11 dX7_bars_110 (fun M_10 H locs eM_10 hP hS => ?_)
                  have hF := hF M_10 eM_10
                  refine lv_iinc (v := (x3_35 + 1)) (lv' := [(3, .int (x3_35 + 1)), (2, .int (x2_35 + (1 : Int32))), (4, .int (5 : Int32)), (0, .ref (ad 32)), (1, .int a1)]) hx hb dX7_bars_111 hl (k := 4) rfl rfl (by decide) rfl (fun ls hl => ?_)
                  refine lv_goto (tgt := 35) hx hb dX7_bars_114 (by decide) ?_
                  exact hJ_35 _ _ _ hF _ _ _ hP hS (lv_sub hl [3, 4, 1, 0] rfl)
                · have hF := hF.1 c_9
                  refine lv_iconst (v := 0) hx hb dX7_bars_96 (by decide) ?_
                  refine lv_goto (tgt := 101) hx hb dX7_bars_97 (by decide) ?_
                  refine lv_iadd hx hb dX7_bars_101 ?_
                  refine lv_istore_n (lv' := [(2, .int (x2_35 + (0 : Int32))), (4, .int (5 : Int32)), (0, .ref (ad 32)), (1, .int a1), (3, .int x3_35)]) hx hb dX7_bars_102 rfl hl (by decide) rfl (fun ls hl => ?_)
                  refine lv_aload_n hx hb dX7_bars_103 rfl (lv_at hl 2 rfl) ?_
                  refine gF S hK hP i7 e_M rfl 13 (by decide) k25 f_M_bars dX7_bars_104 ?_
                  refine lv_iload_n hx hb dX7_bars_107 rfl (lv_at hl 4 rfl) ?_
                  refine lv_iload hx hb dX7_bars_108 (lv_at hl 1 rfl) ?_
                  obtain ⟨hb_13, hF⟩ := hF
                  refine stA S hK had hP hS (k := 38) rfl hb_13 dX7_bars_110 (fun M_12 H locs eM_12 hP hS => ?_)
                  have hF := hF M_12 eM_12
                  refine lv_iinc (v := (x3_35 + 1)) (lv' := [(3, .int (x3_35 + 1)), (2, .int (x2_35 + (0 : Int32))), (4, .int (5 : Int32)), (0, .ref (ad 32)), (1, .int a1)]) hx hb dX7_bars_111 hl (k := 4) rfl rfl (by decide) rfl (fun ls hl => ?_)
                  refine lv_goto (tgt := 35) hx hb dX7_bars_114 (by decide) ?_
                  exact hJ_35 _ _ _ hF _ _ _ hP hS (lv_sub hl [3, 4, 1, 0] rfl)
              · have hF := hF.1 c_7
                refine lv_aload_n hx hb dX7_bars_72 rfl (lv_at hl 0 rfl) ?_
                refine gF S hK hP i7 e_M rfl 31 (by decide) k56 f_M_bestRow dX7_bars_73 ?_
                refine lv_iload_n hx hb dX7_bars_76 rfl (lv_at hl 3 rfl) ?_
                obtain ⟨hb_14, hF⟩ := hF
                refine ldA S hK hP (k := 48) rfl hb_14 dX7_bars_77 ?_
                refine lv_goto (tgt := 82) hx hb dX7_bars_78 (by decide) ?_
                refine lv_istore (lv' := [(4, .int (ga m35 48 x3_35.toNatClampNeg)), (0, .ref (ad 32)), (1, .int a1), (2, .int x2_35), (3, .int x3_35)]) hx hb dX7_bars_82 hl (by decide) rfl (fun ls hl => ?_)
                refine lv_iload_n hx hb dX7_bars_84 rfl (lv_at hl 3 rfl) ?_
                refine lv_aload_n hx hb dX7_bars_85 rfl (lv_at hl 1 rfl) ?_
                refine gF S hK hP i7 e_M rfl 13 (by decide) k25 f_M_bars dX7_bars_86 ?_
                refine lv_iload_n hx hb dX7_bars_89 rfl (lv_at hl 4 rfl) ?_
                obtain ⟨hb_15, hF⟩ := hF
                refine ldA S hK hP (k := 38) rfl hb_15 dX7_bars_90 ?_
                refine lv_iload hx hb dX7_bars_91 (lv_at hl 0 rfl) ?_
                refine lv_icmp_ne (tgt := 100) hx hb dX7_bars_93 (by decide) (fun c_16 => ?_) (fun c_16 => ?_)
                · have hF := hF.2 c_16
                  refine lv_iconst (v := 1) hx hb dX7_bars_100 (by decide) ?_
                  refine lv_iadd hx hb dX7_bars_101 ?_
                  refine lv_istore_n (lv' := [(2, .int (x2_35 + (1 : Int32))), (4, .int (ga m35 48 x3_35.toNatClampNeg)), (0, .ref (ad 32)), (1, .int a1), (3, .int x3_35)]) hx hb dX7_bars_102 rfl hl (by decide) rfl (fun ls hl => ?_)
                  refine lv_aload_n hx hb dX7_bars_103 rfl (lv_at hl 2 rfl) ?_
                  refine gF S hK hP i7 e_M rfl 13 (by decide) k25 f_M_bars dX7_bars_104 ?_
                  refine lv_iload_n hx hb dX7_bars_107 rfl (lv_at hl 4 rfl) ?_
                  refine lv_iload hx hb dX7_bars_108 (lv_at hl 1 rfl) ?_
                  obtain ⟨hb_18, hF⟩ := hF
                  refine stA S hK had hP hS (k := 38) rfl hb_18 dX7_bars_110 (fun M_17 H locs eM_17 hP hS => ?_)
                  have hF := hF M_17 eM_17
                  refine lv_iinc (v := (x3_35 + 1)) (lv' := [(3, .int (x3_35 + 1)), (2, .int (x2_35 + (1 : Int32))), (4, .int (ga m35 48 x3_35.toNatClampNeg)), (0, .ref (ad 32)), (1, .int a1)]) hx hb dX7_bars_111 hl (k := 4) rfl rfl (by decide) rfl (fun ls hl => ?_)
                  refine lv_goto (tgt := 35) hx hb dX7_bars_114 (by decide) ?_
                  exact hJ_35 _ _ _ hF _ _ _ hP hS (lv_sub hl [3, 4, 1, 0] rfl)
                · have hF := hF.1 c_16
                  refine lv_iconst (v := 0) hx hb dX7_bars_96 (by decide) ?_
                  refine lv_goto (tgt := 101) hx hb dX7_bars_97 (by decide) ?_
                  refine lv_iadd hx hb dX7_bars_101 ?_
                  refine lv_istore_n (lv' := [(2, .int (x2_35 + (0 : Int32))), (4, .int (ga m35 48 x3_35.toNatClampNeg)), (0, .ref (ad 32)), (1, .int a1), (3, .int x3_35)]) hx hb dX7_bars_102 rfl hl (by decide) rfl (fun ls hl => ?_)
                  refine lv_aload_n hx hb dX7_bars_103 rfl (lv_at hl 2 rfl) ?_
                  refine gF S hK hP i7 e_M rfl 13 (by decide) k25 f_M_bars dX7_bars_104 ?_
                  refine lv_iload_n hx hb dX7_bars_107 rfl (lv_at hl 4 rfl) ?_
                  refine lv_iload hx hb dX7_bars_108 (lv_at hl 1 rfl) ?_
                  obtain ⟨hb_20, hF⟩ := hF
                  refine stA S hK had hP hS (k := 38) rfl hb_20 dX7_bars_110 (fun M_19 H locs eM_19 hP hS => ?_)
                  have hF := hF M_19 eM_19
                  refine lv_iinc (v := (x3_35 + 1)) (lv' := [(3, .int (x3_35 + 1)), (2, .int (x2_35 + (0 : Int32))), (4, .int (ga m35 48 x3_35.toNatClampNeg)), (0, .ref (ad 32)), (1, .int a1)]) hx hb dX7_bars_111 hl (k := 4) rfl rfl (by decide) rfl (fun ls hl => ?_)
                  refine lv_goto (tgt := 35) hx hb dX7_bars_114 (by decide) ?_
                  exact hJ_35 _ _ _ hF _ _ _ hP hS (lv_sub hl [3, 4, 1, 0] rfl)
            · have hF := hF.1 c_6
              refine lv_aload_n hx hb dX7_bars_47 rfl (lv_at hl 0 rfl) ?_
              refine lv_iload_n hx hb dX7_bars_48 rfl (lv_at hl 3 rfl) ?_
              refine lv_aload_n hx hb dX7_bars_49 rfl (lv_at hl 0 rfl) ?_
              refine gF S hK hP i7 e_M rfl 14 (by decide) k155 f_M_toll dX7_bars_50 ?_
              refine lv_aload_n hx hb dX7_bars_53 rfl (lv_at hl 0 rfl) ?_
              refine gF S hK hP i7 e_M rfl 15 (by decide) k158 f_M_step dX7_bars_54 ?_
              refine lv_aload_n hx hb dX7_bars_57 rfl (lv_at hl 0 rfl) ?_
              refine gF S hK hP i7 e_M rfl 16 (by decide) k161 f_M_lie dX7_bars_58 ?_
              refine goI (rV (rest := []) S hK hP (ctX7_hisBar l D cI cJ ad had x3_35 (gi m35 32) (gi m35 33) (gi m35 34) _ _ hF) (cwV 4 hts gX7_bars_X7_hisBar rfl rfl rfl hdV_X7_hisBar ⟨Nat.le_of_ble_eq_true rfl, Nat.le_of_ble_eq_true rfl⟩) e_M rfl rfl hl.1 rfl (Nat.le_of_ble_eq_true rfl) dX7_bars_61 ⟨Nat.zero_le _, Nat.zero_le _⟩) hS (fun _ h => h) (fun r_21 M_21 H locs hP hS hF => ?_)
              refine lv_goto (tgt := 82) hx hb dX7_bars_64 (by decide) ?_
              refine lv_istore (lv' := [(4, .int r_21), (0, .ref (ad 32)), (1, .int a1), (2, .int x2_35), (3, .int x3_35)]) hx hb dX7_bars_82 hl (by decide) rfl (fun ls hl => ?_)
              refine lv_iload_n hx hb dX7_bars_84 rfl (lv_at hl 3 rfl) ?_
              refine lv_aload_n hx hb dX7_bars_85 rfl (lv_at hl 1 rfl) ?_
              refine gF S hK hP i7 e_M rfl 13 (by decide) k25 f_M_bars dX7_bars_86 ?_
              refine lv_iload_n hx hb dX7_bars_89 rfl (lv_at hl 4 rfl) ?_
              obtain ⟨hb_22, hF⟩ := hF
              refine ldA S hK hP (k := 38) rfl hb_22 dX7_bars_90 ?_
              refine lv_iload hx hb dX7_bars_91 (lv_at hl 0 rfl) ?_
              refine lv_icmp_ne (tgt := 100) hx hb dX7_bars_93 (by decide) (fun c_23 => ?_) (fun c_23 => ?_)
              · have hF := hF.2 c_23
                refine lv_iconst (v := 1) hx hb dX7_bars_100 (by decide) ?_
                refine lv_iadd hx hb dX7_bars_101 ?_
                refine lv_istore_n (lv' := [(2, .int (x2_35 + (1 : Int32))), (4, .int r_21), (0, .ref (ad 32)), (1, .int a1), (3, .int x3_35)]) hx hb dX7_bars_102 rfl hl (by decide) rfl (fun ls hl => ?_)
                refine lv_aload_n hx hb dX7_bars_103 rfl (lv_at hl 2 rfl) ?_
                refine gF S hK hP i7 e_M rfl 13 (by decide) k25 f_M_bars dX7_bars_104 ?_
                refine lv_iload_n hx hb dX7_bars_107 rfl (lv_at hl 4 rfl) ?_
                refine lv_iload hx hb dX7_bars_108 (lv_at hl 1 rfl) ?_
                obtain ⟨hb_25, hF⟩ := hF
                refine stA S hK had hP hS (k := 38) rfl hb_25 dX7_bars_110 (fun M_24 H locs eM_24 hP hS => ?_)
                have hF := hF M_24 eM_24
                refine lv_iinc (v := (x3_35 + 1)) (lv' := [(3, .int (x3_35 + 1)), (2, .int (x2_35 + (1 : Int32))), (4, .int r_21), (0, .ref (ad 32)), (1, .int a1)]) hx hb dX7_bars_111 hl (k := 4) rfl rfl (by decide) rfl (fun ls hl => ?_)
                refine lv_goto (tgt := 35) hx hb dX7_bars_114 (by decide) ?_
                exact hJ_35 _ _ _ hF _ _ _ hP hS (lv_sub hl [3, 4, 1, 0] rfl)
              · have hF := hF.1 c_23
                refine lv_iconst (v := 0) hx hb dX7_bars_96 (by decide) ?_
                refine lv_goto (tgt := 101) hx hb dX7_bars_97 (by decide) ?_
                refine lv_iadd hx hb dX7_bars_101 ?_
                refine lv_istore_n (lv' := [(2, .int (x2_35 + (0 : Int32))), (4, .int r_21), (0, .ref (ad 32)), (1, .int a1), (3, .int x3_35)]) hx hb dX7_bars_102 rfl hl (by decide) rfl (fun ls hl => ?_)
                refine lv_aload_n hx hb dX7_bars_103 rfl (lv_at hl 2 rfl) ?_
                refine gF S hK hP i7 e_M rfl 13 (by decide) k25 f_M_bars dX7_bars_104 ?_
                refine lv_iload_n hx hb dX7_bars_107 rfl (lv_at hl 4 rfl) ?_
                refine lv_iload hx hb dX7_bars_108 (lv_at hl 1 rfl) ?_
                obtain ⟨hb_27, hF⟩ := hF
                refine stA S hK had hP hS (k := 38) rfl hb_27 dX7_bars_110 (fun M_26 H locs eM_26 hP hS => ?_)
                have hF := hF M_26 eM_26
                refine lv_iinc (v := (x3_35 + 1)) (lv' := [(3, .int (x3_35 + 1)), (2, .int (x2_35 + (0 : Int32))), (4, .int r_21), (0, .ref (ad 32)), (1, .int a1)]) hx hb dX7_bars_111 hl (k := 4) rfl rfl (by decide) rfl (fun ls hl => ?_)
                refine lv_goto (tgt := 35) hx hb dX7_bars_114 (by decide) ?_
                exact hJ_35 _ _ _ hF _ _ _ hP hS (lv_sub hl [3, 4, 1, 0] rfl)
        exact key_35 _ _ _ hF _ _ _ hP hS (lv_sub hl [2, 3, 1, 0] rfl)
      · have hF := hF.1 c_4
        refine lv_aload_n hx hb dX7_bars_27 rfl (lv_at hl 0 rfl) ?_
        refine goV (rV (rest := []) S hK hP (ctX7_findBest l D cI cJ ad had  _ _ hF) (cwV 0 hts gX7_bars_X7_findBest rfl rfl rfl hdV_X7_findBest ⟨Nat.le_of_ble_eq_true rfl, Nat.le_of_ble_eq_true rfl⟩) e_M rfl rfl hl.1 rfl (Nat.le_of_ble_eq_true rfl) dX7_bars_28 ⟨Nat.zero_le _, Nat.zero_le _⟩) hS (fun _ h => h) (fun M_28 H locs hP hS hF => ?_)
        refine lv_iconst (v := 0) hx hb dX7_bars_31 (by decide) ?_
        refine lv_istore_n (lv' := [(2, .int (0 : Int32)), (0, .ref (ad 32)), (1, .int a1)]) hx hb dX7_bars_32 rfl hl (by decide) rfl (fun ls hl => ?_)
        refine lv_iconst (v := 0) hx hb dX7_bars_33 (by decide) ?_
        refine lv_istore_n (lv' := [(3, .int (0 : Int32)), (2, .int (0 : Int32)), (0, .ref (ad 32)), (1, .int a1)]) hx hb dX7_bars_34 rfl hl (by decide) rfl (fun ls hl => ?_)
        have key_35 : ∀ (x2_35 : Int32) (x3_35 : Int32) (m35 : Mm), (lX7_bars_35 a1 Q x2_35 x3_35 m35) → Wc p l e ({ frames := 4, cells := 0, slots := 0, locals := 108 } : Room) s m args below meth c D cI cJ ad (MQ below (QiW D cI cJ ad Q) args s 0 0 (Fr ad)) 5 35 [(0, .ref (ad 32)), (1, .int a1), (2, .int x2_35), (3, .int x3_35)] m35 := by
          intro x2_35 x3_35 m35 hL
          refine hL (fun x2_35 x3_35 m35 => Wc p l e ({ frames := 4, cells := 0, slots := 0, locals := 108 } : Room) s m args below meth c D cI cJ ad (MQ below (QiW D cI cJ ad Q) args s 0 0 (Fr ad)) 5 35 [(0, .ref (ad 32)), (1, .int a1), (2, .int x2_35), (3, .int x3_35)] m35) ?_
          intro J_35 hJ_35 x2_35 x3_35 m35 hF H locs ls hP hS hl
          unfold bX7_bars_35 at hF
          refine lv_iload_n hx hb dX7_bars_35 rfl (lv_at hl 3 rfl) ?_
          refine lv_aload_n hx hb dX7_bars_36 rfl (lv_at hl 0 rfl) ?_
          refine gF S hK hP i7 e_M rfl 10 (by decide) k152 f_M_sorts dX7_bars_37 ?_
          refine lv_icmp_ge (tgt := 117) hx hb dX7_bars_40 (by decide) (fun c_29 => ?_) (fun c_29 => ?_)
          · have hF := hF.1 c_29
            refine lv_iload_n hx hb dX7_bars_117 rfl (lv_at hl 2 rfl) ?_
            exact retI S hr hlocks hP hS hF dX7_bars_118
          · have hF := hF.2 c_29
            refine lv_iload_n hx hb dX7_bars_43 rfl (lv_at hl 1 rfl) ?_
            refine lv_if_ne (tgt := 67) hx hb dX7_bars_44 (by decide) (fun c_30 => ?_) (fun c_30 => ?_)
            · have hF := hF.2 c_30
              refine lv_iload_n hx hb dX7_bars_67 rfl (lv_at hl 1 rfl) ?_
              refine lv_iconst (v := 1) hx hb dX7_bars_68 (by decide) ?_
              refine lv_icmp_ne (tgt := 81) hx hb dX7_bars_69 (by decide) (fun c_31 => ?_) (fun c_31 => ?_)
              · have hF := hF.2 c_31
                refine lv_iconst (v := 5) hx hb dX7_bars_81 (by decide) ?_
                refine lv_istore (lv' := [(4, .int (5 : Int32)), (0, .ref (ad 32)), (1, .int a1), (2, .int x2_35), (3, .int x3_35)]) hx hb dX7_bars_82 hl (by decide) rfl (fun ls hl => ?_)
                refine lv_iload_n hx hb dX7_bars_84 rfl (lv_at hl 3 rfl) ?_
                refine lv_aload_n hx hb dX7_bars_85 rfl (lv_at hl 1 rfl) ?_
                refine gF S hK hP i7 e_M rfl 13 (by decide) k25 f_M_bars dX7_bars_86 ?_
                refine lv_iload_n hx hb dX7_bars_89 rfl (lv_at hl 4 rfl) ?_
                obtain ⟨hb_32, hF⟩ := hF
                refine ldA S hK hP (k := 38) rfl hb_32 dX7_bars_90 ?_
                refine lv_iload hx hb dX7_bars_91 (lv_at hl 0 rfl) ?_
                refine lv_icmp_ne (tgt := 100) hx hb dX7_bars_93 (by decide) (fun c_33 => ?_) (fun c_33 => ?_)
                · have hF := hF.2 c_33
                  refine lv_iconst (v := 1) hx hb dX7_bars_100 (by decide) ?_
                  refine lv_iadd hx hb dX7_bars_101 ?_
                  refine lv_istore_n (lv' := [(2, .int (x2_35 + (1 : Int32))), (4, .int (5 : Int32)), (0, .ref (ad 32)), (1, .int a1), (3, .int x3_35)]) hx hb dX7_bars_102 rfl hl (by decide) rfl (fun ls hl => ?_)
                  refine lv_aload_n hx hb dX7_bars_103 rfl (lv_at hl 2 rfl) ?_
                  refine gF S hK hP i7 e_M rfl 13 (by decide) k25 f_M_bars dX7_bars_104 ?_
                  refine lv_iload_n hx hb dX7_bars_107 rfl (lv_at hl 4 rfl) ?_
                  refine lv_iload hx hb dX7_bars_108 (lv_at hl 1 rfl) ?_
                  obtain ⟨hb_35, hF⟩ := hF
                  refine stA S hK had hP hS (k := 38) rfl hb_35 dX7_bars_110 (fun M_34 H locs eM_34 hP hS => ?_)
                  have hF := hF M_34 eM_34
                  refine lv_iinc (v := (x3_35 + 1)) (lv' := [(3, .int (x3_35 + 1)), (2, .int (x2_35 + (1 : Int32))), (4, .int (5 : Int32)), (0, .ref (ad 32)), (1, .int a1)]) hx hb dX7_bars_111 hl (k := 4) rfl rfl (by decide) rfl (fun ls hl => ?_)
                  refine lv_goto (tgt := 35) hx hb dX7_bars_114 (by decide) ?_
                  exact hJ_35 _ _ _ hF _ _ _ hP hS (lv_sub hl [3, 4, 1, 0] rfl)
                · have hF := hF.1 c_33
                  refine lv_iconst (v := 0) hx hb dX7_bars_96 (by decide) ?_
                  refine lv_goto (tgt := 101) hx hb dX7_bars_97 (by decide) ?_
                  refine lv_iadd hx hb dX7_bars_101 ?_
                  refine lv_istore_n (lv' := [(2, .int (x2_35 + (0 : Int32))), (4, .int (5 : Int32)), (0, .ref (ad 32)), (1, .int a1), (3, .int x3_35)]) hx hb dX7_bars_102 rfl hl (by decide) rfl (fun ls hl => ?_)
                  refine lv_aload_n hx hb dX7_bars_103 rfl (lv_at hl 2 rfl) ?_
                  refine gF S hK hP i7 e_M rfl 13 (by decide) k25 f_M_bars dX7_bars_104 ?_
                  refine lv_iload_n hx hb dX7_bars_107 rfl (lv_at hl 4 rfl) ?_
                  refine lv_iload hx hb dX7_bars_108 (lv_at hl 1 rfl) ?_
                  obtain ⟨hb_37, hF⟩ := hF
                  refine stA S hK had hP hS (k := 38) rfl hb_37 dX7_bars_110 (fun M_36 H locs eM_36 hP hS => ?_)
                  have hF := hF M_36 eM_36
                  refine lv_iinc (v := (x3_35 + 1)) (lv' := [(3, .int (x3_35 + 1)), (2, .int (x2_35 + (0 : Int32))), (4, .int (5 : Int32)), (0, .ref (ad 32)), (1, .int a1)]) hx hb dX7_bars_111 hl (k := 4) rfl rfl (by decide) rfl (fun ls hl => ?_)
                  refine lv_goto (tgt := 35) hx hb dX7_bars_114 (by decide) ?_
                  exact hJ_35 _ _ _ hF _ _ _ hP hS (lv_sub hl [3, 4, 1, 0] rfl)
              · have hF := hF.1 c_31
                refine lv_aload_n hx hb dX7_bars_72 rfl (lv_at hl 0 rfl) ?_
                refine gF S hK hP i7 e_M rfl 31 (by decide) k56 f_M_bestRow dX7_bars_73 ?_
                refine lv_iload_n hx hb dX7_bars_76 rfl (lv_at hl 3 rfl) ?_
                obtain ⟨hb_38, hF⟩ := hF
                refine ldA S hK hP (k := 48) rfl hb_38 dX7_bars_77 ?_
                refine lv_goto (tgt := 82) hx hb dX7_bars_78 (by decide) ?_
                refine lv_istore (lv' := [(4, .int (ga m35 48 x3_35.toNatClampNeg)), (0, .ref (ad 32)), (1, .int a1), (2, .int x2_35), (3, .int x3_35)]) hx hb dX7_bars_82 hl (by decide) rfl (fun ls hl => ?_)
                refine lv_iload_n hx hb dX7_bars_84 rfl (lv_at hl 3 rfl) ?_
                refine lv_aload_n hx hb dX7_bars_85 rfl (lv_at hl 1 rfl) ?_
                refine gF S hK hP i7 e_M rfl 13 (by decide) k25 f_M_bars dX7_bars_86 ?_
                refine lv_iload_n hx hb dX7_bars_89 rfl (lv_at hl 4 rfl) ?_
                obtain ⟨hb_39, hF⟩ := hF
                refine ldA S hK hP (k := 38) rfl hb_39 dX7_bars_90 ?_
                refine lv_iload hx hb dX7_bars_91 (lv_at hl 0 rfl) ?_
                refine lv_icmp_ne (tgt := 100) hx hb dX7_bars_93 (by decide) (fun c_40 => ?_) (fun c_40 => ?_)
                · have hF := hF.2 c_40
                  refine lv_iconst (v := 1) hx hb dX7_bars_100 (by decide) ?_
                  refine lv_iadd hx hb dX7_bars_101 ?_
                  refine lv_istore_n (lv' := [(2, .int (x2_35 + (1 : Int32))), (4, .int (ga m35 48 x3_35.toNatClampNeg)), (0, .ref (ad 32)), (1, .int a1), (3, .int x3_35)]) hx hb dX7_bars_102 rfl hl (by decide) rfl (fun ls hl => ?_)
                  refine lv_aload_n hx hb dX7_bars_103 rfl (lv_at hl 2 rfl) ?_
                  refine gF S hK hP i7 e_M rfl 13 (by decide) k25 f_M_bars dX7_bars_104 ?_
                  refine lv_iload_n hx hb dX7_bars_107 rfl (lv_at hl 4 rfl) ?_
                  refine lv_iload hx hb dX7_bars_108 (lv_at hl 1 rfl) ?_
                  obtain ⟨hb_42, hF⟩ := hF
                  refine stA S hK had hP hS (k := 38) rfl hb_42 dX7_bars_110 (fun M_41 H locs eM_41 hP hS => ?_)
                  have hF := hF M_41 eM_41
                  refine lv_iinc (v := (x3_35 + 1)) (lv' := [(3, .int (x3_35 + 1)), (2, .int (x2_35 + (1 : Int32))), (4, .int (ga m35 48 x3_35.toNatClampNeg)), (0, .ref (ad 32)), (1, .int a1)]) hx hb dX7_bars_111 hl (k := 4) rfl rfl (by decide) rfl (fun ls hl => ?_)
                  refine lv_goto (tgt := 35) hx hb dX7_bars_114 (by decide) ?_
                  exact hJ_35 _ _ _ hF _ _ _ hP hS (lv_sub hl [3, 4, 1, 0] rfl)
                · have hF := hF.1 c_40
                  refine lv_iconst (v := 0) hx hb dX7_bars_96 (by decide) ?_
                  refine lv_goto (tgt := 101) hx hb dX7_bars_97 (by decide) ?_
                  refine lv_iadd hx hb dX7_bars_101 ?_
                  refine lv_istore_n (lv' := [(2, .int (x2_35 + (0 : Int32))), (4, .int (ga m35 48 x3_35.toNatClampNeg)), (0, .ref (ad 32)), (1, .int a1), (3, .int x3_35)]) hx hb dX7_bars_102 rfl hl (by decide) rfl (fun ls hl => ?_)
                  refine lv_aload_n hx hb dX7_bars_103 rfl (lv_at hl 2 rfl) ?_
                  refine gF S hK hP i7 e_M rfl 13 (by decide) k25 f_M_bars dX7_bars_104 ?_
                  refine lv_iload_n hx hb dX7_bars_107 rfl (lv_at hl 4 rfl) ?_
                  refine lv_iload hx hb dX7_bars_108 (lv_at hl 1 rfl) ?_
                  obtain ⟨hb_44, hF⟩ := hF
                  refine stA S hK had hP hS (k := 38) rfl hb_44 dX7_bars_110 (fun M_43 H locs eM_43 hP hS => ?_)
                  have hF := hF M_43 eM_43
                  refine lv_iinc (v := (x3_35 + 1)) (lv' := [(3, .int (x3_35 + 1)), (2, .int (x2_35 + (0 : Int32))), (4, .int (ga m35 48 x3_35.toNatClampNeg)), (0, .ref (ad 32)), (1, .int a1)]) hx hb dX7_bars_111 hl (k := 4) rfl rfl (by decide) rfl (fun ls hl => ?_)
                  refine lv_goto (tgt := 35) hx hb dX7_bars_114 (by decide) ?_
                  exact hJ_35 _ _ _ hF _ _ _ hP hS (lv_sub hl [3, 4, 1, 0] rfl)
            · have hF := hF.1 c_30
              refine lv_aload_n hx hb dX7_bars_47 rfl (lv_at hl 0 rfl) ?_
              refine lv_iload_n hx hb dX7_bars_48 rfl (lv_at hl 3 rfl) ?_
              refine lv_aload_n hx hb dX7_bars_49 rfl (lv_at hl 0 rfl) ?_
              refine gF S hK hP i7 e_M rfl 14 (by decide) k155 f_M_toll dX7_bars_50 ?_
              refine lv_aload_n hx hb dX7_bars_53 rfl (lv_at hl 0 rfl) ?_
              refine gF S hK hP i7 e_M rfl 15 (by decide) k158 f_M_step dX7_bars_54 ?_
              refine lv_aload_n hx hb dX7_bars_57 rfl (lv_at hl 0 rfl) ?_
              refine gF S hK hP i7 e_M rfl 16 (by decide) k161 f_M_lie dX7_bars_58 ?_
              refine goI (rV (rest := []) S hK hP (ctX7_hisBar l D cI cJ ad had x3_35 (gi m35 32) (gi m35 33) (gi m35 34) _ _ hF) (cwV 4 hts gX7_bars_X7_hisBar rfl rfl rfl hdV_X7_hisBar ⟨Nat.le_of_ble_eq_true rfl, Nat.le_of_ble_eq_true rfl⟩) e_M rfl rfl hl.1 rfl (Nat.le_of_ble_eq_true rfl) dX7_bars_61 ⟨Nat.zero_le _, Nat.zero_le _⟩) hS (fun _ h => h) (fun r_45 M_45 H locs hP hS hF => ?_)
              refine lv_goto (tgt := 82) hx hb dX7_bars_64 (by decide) ?_
              refine lv_istore (lv' := [(4, .int r_45), (0, .ref (ad 32)), (1, .int a1), (2, .int x2_35), (3, .int x3_35)]) hx hb dX7_bars_82 hl (by decide) rfl (fun ls hl => ?_)
              refine lv_iload_n hx hb dX7_bars_84 rfl (lv_at hl 3 rfl) ?_
              refine lv_aload_n hx hb dX7_bars_85 rfl (lv_at hl 1 rfl) ?_
              refine gF S hK hP i7 e_M rfl 13 (by decide) k25 f_M_bars dX7_bars_86 ?_
              refine lv_iload_n hx hb dX7_bars_89 rfl (lv_at hl 4 rfl) ?_
              obtain ⟨hb_46, hF⟩ := hF
              refine ldA S hK hP (k := 38) rfl hb_46 dX7_bars_90 ?_
              refine lv_iload hx hb dX7_bars_91 (lv_at hl 0 rfl) ?_
              refine lv_icmp_ne (tgt := 100) hx hb dX7_bars_93 (by decide) (fun c_47 => ?_) (fun c_47 => ?_)
              · have hF := hF.2 c_47
                refine lv_iconst (v := 1) hx hb dX7_bars_100 (by decide) ?_
                refine lv_iadd hx hb dX7_bars_101 ?_
                refine lv_istore_n (lv' := [(2, .int (x2_35 + (1 : Int32))), (4, .int r_45), (0, .ref (ad 32)), (1, .int a1), (3, .int x3_35)]) hx hb dX7_bars_102 rfl hl (by decide) rfl (fun ls hl => ?_)
                refine lv_aload_n hx hb dX7_bars_103 rfl (lv_at hl 2 rfl) ?_
                refine gF S hK hP i7 e_M rfl 13 (by decide) k25 f_M_bars dX7_bars_104 ?_
                refine lv_iload_n hx hb dX7_bars_107 rfl (lv_at hl 4 rfl) ?_
                refine lv_iload hx hb dX7_bars_108 (lv_at hl 1 rfl) ?_
                obtain ⟨hb_49, hF⟩ := hF
                refine stA S hK had hP hS (k := 38) rfl hb_49 dX7_bars_110 (fun M_48 H locs eM_48 hP hS => ?_)
                have hF := hF M_48 eM_48
                refine lv_iinc (v := (x3_35 + 1)) (lv' := [(3, .int (x3_35 + 1)), (2, .int (x2_35 + (1 : Int32))), (4, .int r_45), (0, .ref (ad 32)), (1, .int a1)]) hx hb dX7_bars_111 hl (k := 4) rfl rfl (by decide) rfl (fun ls hl => ?_)
                refine lv_goto (tgt := 35) hx hb dX7_bars_114 (by decide) ?_
                exact hJ_35 _ _ _ hF _ _ _ hP hS (lv_sub hl [3, 4, 1, 0] rfl)
              · have hF := hF.1 c_47
                refine lv_iconst (v := 0) hx hb dX7_bars_96 (by decide) ?_
                refine lv_goto (tgt := 101) hx hb dX7_bars_97 (by decide) ?_
                refine lv_iadd hx hb dX7_bars_101 ?_
                refine lv_istore_n (lv' := [(2, .int (x2_35 + (0 : Int32))), (4, .int r_45), (0, .ref (ad 32)), (1, .int a1), (3, .int x3_35)]) hx hb dX7_bars_102 rfl hl (by decide) rfl (fun ls hl => ?_)
                refine lv_aload_n hx hb dX7_bars_103 rfl (lv_at hl 2 rfl) ?_
                refine gF S hK hP i7 e_M rfl 13 (by decide) k25 f_M_bars dX7_bars_104 ?_
                refine lv_iload_n hx hb dX7_bars_107 rfl (lv_at hl 4 rfl) ?_
                refine lv_iload hx hb dX7_bars_108 (lv_at hl 1 rfl) ?_
                obtain ⟨hb_51, hF⟩ := hF
                refine stA S hK had hP hS (k := 38) rfl hb_51 dX7_bars_110 (fun M_50 H locs eM_50 hP hS => ?_)
                have hF := hF M_50 eM_50
                refine lv_iinc (v := (x3_35 + 1)) (lv' := [(3, .int (x3_35 + 1)), (2, .int (x2_35 + (0 : Int32))), (4, .int r_45), (0, .ref (ad 32)), (1, .int a1)]) hx hb dX7_bars_111 hl (k := 4) rfl rfl (by decide) rfl (fun ls hl => ?_)
                refine lv_goto (tgt := 35) hx hb dX7_bars_114 (by decide) ?_
                exact hJ_35 _ _ _ hF _ _ _ hP hS (lv_sub hl [3, 4, 1, 0] rfl)
        exact key_35 _ _ _ hF _ _ _ hP hS (lv_sub hl [2, 3, 1, 0] rfl)
    · have hF := hF.1 c_3
      refine lv_bipush (v := -3) hx hb dX7_bars_19 (by decide) ?_
      exact retI S hr hlocks hP hS hF dX7_bars_21
  · have hF := hF.1 c_2
    refine lv_bipush (v := -2) hx hb dX7_bars_9 (by decide) ?_
    exact retI S hr hlocks hP hS hF dX7_bars_11
def wX7_against (a1 : Int32) (a2 : Int32) (Q : Int32 → Mm → Prop) (M : Mm) : Prop := (wX7_allRows (fun r_1 M_1 => (wX7_within a1 (0 : Int32) (r_1 - (1 : Int32)) (fun r_2 M_2 => ((r_2 = 0 → (Q (-2 : Int32) M_2)) ∧ (¬ r_2 = 0 → (wX7_allRows (fun r_4 M_4 => (wX7_within a2 (0 : Int32) (r_4 - (1 : Int32)) (fun r_5 M_5 => ((r_5 = 0 → (Q (-2 : Int32) M_5)) ∧ (¬ r_5 = 0 → (((gi M_5 28) = 0 → (Q (-3 : Int32) M_5)) ∧ (¬ (gi M_5 28) = 0 → (wX7_layRow a1 (fun M_8 => (wX7_layGain 47 (fun M_9 => (wX7_layRow a2 (fun M_10 => (wX7_layGain 47 (fun M_11 => (wX7_compare (gj M_9 4) (gj M_9 5) (gj M_11 4) (gj M_11 5) (fun r_12 M_12 => (Q r_12 M_12)) M_11)) M_10)) M_9)) M_8)) M_5)))))) M_4)) M_2)))) M_1)) M)
set_option maxHeartbeats 4000000 in
set_option maxRecDepth 100000 in
theorem ctX7_against (l : Launch) (D : va_G) (cI cJ : ClassId) (ad : Nat → Nat) (had : inj54 ad) (a1 : Int32) (a2 : Int32) (Q : Int32 → Mm → Prop) (M : Mm) (hF : wX7_against a1 a2 Q M) : Met l yX7_against wsX7_against ({ frames := 3, cells := 0, slots := 0, locals := 82 } : Room) (PcW D cI cJ ad M [.ref (ad 32), .int a1, .int a2]) (QiW D cI cJ ad Q) 0 0 (Fr ad) := by
  refine entW (y := yX7_against) (ret := some .int) (maxL := 7) (plainFor_of_name (by decide)) rfl (Nat.le_of_ble_eq_true rfl) ?_
  intro p e s m args below meth c ls S hK hr hlocks hP hS hl
  have hx := S.1
  have hb := S.2.1
  have hown := S.2.2.2.1
  have hts := S.2.2.2.2
  have i7 : ∀ w ∈ wsX70, w ∈ wsX7_against := by decide +kernel
  have k142 := hts (.fieldLink RX7 142 "RopeLineModel" "isPlace" "Z") (by decide +kernel)
  have k53 := hts (.fieldLink RX7 53 "RopeLineModel" "row" "[I") (by decide +kernel)
  have k84 := hts (.fieldLink RX7 84 "RopeLineModel" "up" "J") (by decide +kernel)
  have k88 := hts (.fieldLink RX7 88 "RopeLineModel" "down" "J") (by decide +kernel)
  have hl : lv_has ls 7 [(0, .ref (ad 32)), (1, .int a1), (2, .int a2)] := hl
  unfold wX7_against at hF
  refine lv_iload_n hx hb dX7_against_0 rfl (lv_at hl 1 rfl) ?_
  refine lv_iconst (v := 0) hx hb dX7_against_1 (by decide) ?_
  refine lv_aload_n hx hb dX7_against_2 rfl (lv_at hl 0 rfl) ?_
  refine goI (rV (rest := [.int (0 : Int32), .int a1]) S hK hP (ctX7_allRows l D cI cJ ad had  _ _ hF) (cwV 0 hts gX7_against_X7_allRows rfl rfl rfl hdV_X7_allRows ⟨Nat.le_of_ble_eq_true rfl, Nat.le_of_ble_eq_true rfl⟩) e_M rfl rfl hl.1 rfl (Nat.le_of_ble_eq_true rfl) dX7_against_3 ⟨Nat.zero_le _, Nat.zero_le _⟩) hS (fun _ h => h) (fun r_1 M_1 H locs hP hS hF => ?_)
  refine lv_iconst (v := 1) hx hb dX7_against_6 (by decide) ?_
  refine lv_isub hx hb dX7_against_7 ?_
  refine goZ (rS (rest := []) S hK hP (ctX7_within l D cI cJ ad had a1 (0 : Int32) (r_1 - (1 : Int32)) _ _ hF) (va_cwS 3 hts gX7_against_X7_within rfl rfl rfl hdS_X7_within ⟨Nat.le_of_ble_eq_true rfl, Nat.le_of_ble_eq_true rfl⟩) rfl hl.1 rfl (Nat.le_of_ble_eq_true rfl) dX7_against_8 ⟨Nat.zero_le _, Nat.zero_le _⟩) hS (fun _ h => h) (fun r_2 M_2 H locs hP hS hz_r_2 hF => ?_)
  refine lv_if_eq (tgt := 28) hx hb dX7_against_11 (by decide) (fun c_3 => ?_) (fun c_3 => ?_)
  · have hF := hF.1 c_3
    refine lv_bipush (v := -2) hx hb dX7_against_28 (by decide) ?_
    exact retI S hr hlocks hP hS hF dX7_against_30
  · have hF := hF.2 c_3
    refine lv_iload_n hx hb dX7_against_14 rfl (lv_at hl 2 rfl) ?_
    refine lv_iconst (v := 0) hx hb dX7_against_15 (by decide) ?_
    refine lv_aload_n hx hb dX7_against_16 rfl (lv_at hl 0 rfl) ?_
    refine goI (rV (rest := [.int (0 : Int32), .int a2]) S hK hP (ctX7_allRows l D cI cJ ad had  _ _ hF) (cwV 0 hts gX7_against_X7_allRows rfl rfl rfl hdV_X7_allRows ⟨Nat.le_of_ble_eq_true rfl, Nat.le_of_ble_eq_true rfl⟩) e_M rfl rfl hl.1 rfl (Nat.le_of_ble_eq_true rfl) dX7_against_17 ⟨Nat.zero_le _, Nat.zero_le _⟩) hS (fun _ h => h) (fun r_4 M_4 H locs hP hS hF => ?_)
    refine lv_iconst (v := 1) hx hb dX7_against_20 (by decide) ?_
    refine lv_isub hx hb dX7_against_21 ?_
    refine goZ (rS (rest := []) S hK hP (ctX7_within l D cI cJ ad had a2 (0 : Int32) (r_4 - (1 : Int32)) _ _ hF) (va_cwS 3 hts gX7_against_X7_within rfl rfl rfl hdS_X7_within ⟨Nat.le_of_ble_eq_true rfl, Nat.le_of_ble_eq_true rfl⟩) rfl hl.1 rfl (Nat.le_of_ble_eq_true rfl) dX7_against_22 ⟨Nat.zero_le _, Nat.zero_le _⟩) hS (fun _ h => h) (fun r_5 M_5 H locs hP hS hz_r_5 hF => ?_)
    refine lv_if_ne (tgt := 31) hx hb dX7_against_25 (by decide) (fun c_6 => ?_) (fun c_6 => ?_)
    · have hF := hF.2 c_6
      refine lv_aload_n hx hb dX7_against_31 rfl (lv_at hl 0 rfl) ?_
      refine gF S hK hP i7 e_M rfl 7 (by decide) k142 f_M_isPlace dX7_against_32 ?_
      refine lv_if_ne (tgt := 41) hx hb dX7_against_35 (by decide) (fun c_7 => ?_) (fun c_7 => ?_)
      · have hF := hF.2 c_7
        refine lv_aload_n hx hb dX7_against_41 rfl (lv_at hl 0 rfl) ?_
        refine lv_iload_n hx hb dX7_against_42 rfl (lv_at hl 1 rfl) ?_
        refine goV (rV (rest := []) S hK hP (ctX7_layRow l D cI cJ ad had a1 _ _ hF) (cwV 1 hts gX7_against_X7_layRow rfl rfl rfl hdV_X7_layRow ⟨Nat.le_of_ble_eq_true rfl, Nat.le_of_ble_eq_true rfl⟩) e_M rfl rfl hl.1 rfl (Nat.le_of_ble_eq_true rfl) dX7_against_43 ⟨Nat.zero_le _, Nat.zero_le _⟩) hS (fun _ h => h) (fun M_8 H locs hP hS hF => ?_)
        refine lv_aload_n hx hb dX7_against_46 rfl (lv_at hl 0 rfl) ?_
        refine lv_aload_n hx hb dX7_against_47 rfl (lv_at hl 0 rfl) ?_
        refine gF S hK hP i7 e_M rfl 30 (by decide) k53 f_M_row dX7_against_48 ?_
        refine goV (rV (rest := []) S hK hP (ctX7_layGain l D cI cJ ad had 47 rfl _ _ hF) (cwV 1 hts gX7_against_X7_layGain rfl rfl rfl hdV_X7_layGain ⟨Nat.le_of_ble_eq_true rfl, Nat.le_of_ble_eq_true rfl⟩) e_M rfl rfl hl.1 rfl (Nat.le_of_ble_eq_true rfl) dX7_against_51 ⟨Nat.zero_le _, Nat.zero_le _⟩) hS (fun _ h => h) (fun M_9 H locs hP hS hF => ?_)
        refine lv_aload_n hx hb dX7_against_54 rfl (lv_at hl 0 rfl) ?_
        refine gF S hK hP i7 e_M rfl 2 (by decide) k84 f_M_up dX7_against_55 ?_
        refine lv_lstore_n (lv' := [(3, .long (gj M_9 4)), (0, .ref (ad 32)), (1, .int a1), (2, .int a2)]) hx hb dX7_against_58 rfl hl (by decide) rfl (fun ls hl => ?_)
        refine lv_aload_n hx hb dX7_against_59 rfl (lv_at hl 1 rfl) ?_
        refine gF S hK hP i7 e_M rfl 3 (by decide) k88 f_M_down dX7_against_60 ?_
        refine lv_lstore (lv' := [(5, .long (gj M_9 5)), (3, .long (gj M_9 4)), (0, .ref (ad 32)), (1, .int a1), (2, .int a2)]) hx hb dX7_against_63 hl (by decide) rfl (fun ls hl => ?_)
        refine lv_aload_n hx hb dX7_against_65 rfl (lv_at hl 2 rfl) ?_
        refine lv_iload_n hx hb dX7_against_66 rfl (lv_at hl 4 rfl) ?_
        refine goV (rV (rest := []) S hK hP (ctX7_layRow l D cI cJ ad had a2 _ _ hF) (cwV 1 hts gX7_against_X7_layRow rfl rfl rfl hdV_X7_layRow ⟨Nat.le_of_ble_eq_true rfl, Nat.le_of_ble_eq_true rfl⟩) e_M rfl rfl hl.1 rfl (Nat.le_of_ble_eq_true rfl) dX7_against_67 ⟨Nat.zero_le _, Nat.zero_le _⟩) hS (fun _ h => h) (fun M_10 H locs hP hS hF => ?_)
        refine lv_aload_n hx hb dX7_against_70 rfl (lv_at hl 2 rfl) ?_
        refine lv_aload_n hx hb dX7_against_71 rfl (lv_at hl 2 rfl) ?_
        refine gF S hK hP i7 e_M rfl 30 (by decide) k53 f_M_row dX7_against_72 ?_
        refine goV (rV (rest := []) S hK hP (ctX7_layGain l D cI cJ ad had 47 rfl _ _ hF) (cwV 1 hts gX7_against_X7_layGain rfl rfl rfl hdV_X7_layGain ⟨Nat.le_of_ble_eq_true rfl, Nat.le_of_ble_eq_true rfl⟩) e_M rfl rfl hl.1 rfl (Nat.le_of_ble_eq_true rfl) dX7_against_75 ⟨Nat.zero_le _, Nat.zero_le _⟩) hS (fun _ h => h) (fun M_11 H locs hP hS hF => ?_)
        refine lv_lload_n hx hb dX7_against_78 rfl (lv_at hl 1 rfl) ?_
        refine lv_lload hx hb dX7_against_79 (lv_at hl 0 rfl) ?_
        refine lv_aload_n hx hb dX7_against_81 rfl (lv_at hl 2 rfl) ?_
        refine gF S hK hP i7 e_M rfl 2 (by decide) k84 f_M_up dX7_against_82 ?_
        refine lv_aload_n hx hb dX7_against_85 rfl (lv_at hl 2 rfl) ?_
        refine gF S hK hP i7 e_M rfl 3 (by decide) k88 f_M_down dX7_against_86 ?_
        refine goI (rS (rest := []) S hK hP (ctX7_compare l D cI cJ ad had (gj M_9 4) (gj M_9 5) (gj M_11 4) (gj M_11 5) _ _ hF) (va_cwS 4 hts gX7_against_X7_compare rfl rfl rfl hdS_X7_compare ⟨Nat.le_of_ble_eq_true rfl, Nat.le_of_ble_eq_true rfl⟩) rfl hl.1 rfl (Nat.le_of_ble_eq_true rfl) dX7_against_89 ⟨Nat.zero_le _, Nat.zero_le _⟩) hS (fun _ h => h) (fun r_12 M_12 H locs hP hS hF => ?_)
        exact retI S hr hlocks hP hS hF dX7_against_92
      · have hF := hF.1 c_7
        refine lv_bipush (v := -3) hx hb dX7_against_38 (by decide) ?_
        exact retI S hr hlocks hP hS hF dX7_against_40
    · have hF := hF.1 c_6
      refine lv_bipush (v := -2) hx hb dX7_against_28 (by decide) ?_
      exact retI S hr hlocks hP hS hF dX7_against_30
def bX7_mends_52 (a1 : Int32) (x2_38 : Int32) (x3_38 : Int32) (x4_38 : Int32) (x5_38 : Int32) (Q : Int32 → Mm → Prop) (J_38 : Int32 → Int32 → Int32 → Int32 → Mm → Prop) (J_52 : Int32 → Int32 → Mm → Prop) (x6_52 : Int32) (x7_52 : Int32) (m52 : Mm) : Prop := (((gi m52 31) ≤ x7_52 → ((x6_52 = 0 → (J_38 x2_38 x3_38 x4_38 (x5_38 + 1) m52)) ∧ (¬ x6_52 = 0 → ((x2_38 = (-9 : Int32) → (J_38 x5_38 x5_38 (x4_38 + 1) (x5_38 + 1) m52)) ∧ (¬ x2_38 = (-9 : Int32) → (J_38 x2_38 x5_38 (x4_38 + 1) (x5_38 + 1) m52)))))) ∧ (¬ (gi m52 31) ≤ x7_52 → (wX7_hisBar x7_52 x5_38 (0 : Int32) (0 : Int32) (fun r_11 M_11 => (vp_in x7_52 3 ∧ ((r_11 = (ga M_11 48 x7_52.toNatClampNeg) → (J_52 (x6_52 &&& (1 : Int32)) (x7_52 + 1) M_11)) ∧ (¬ r_11 = (ga M_11 48 x7_52.toNatClampNeg) → (J_52 (x6_52 &&& (0 : Int32)) (x7_52 + 1) M_11))))) m52)))
def lX7_mends_52 (a1 : Int32) (x2_38 : Int32) (x3_38 : Int32) (x4_38 : Int32) (x5_38 : Int32) (Q : Int32 → Mm → Prop) (J_38 : Int32 → Int32 → Int32 → Int32 → Mm → Prop) (x6_52 : Int32) (x7_52 : Int32) (m52 : Mm) : Prop := ∀ I : Int32 → Int32 → Mm → Prop, (∀ J : Int32 → Int32 → Mm → Prop, (∀ (x6_52 : Int32) (x7_52 : Int32) (m : Mm), J x6_52 x7_52 m → I x6_52 x7_52 m) → ∀ (x6_52 : Int32) (x7_52 : Int32) (m : Mm), bX7_mends_52 a1 x2_38 x3_38 x4_38 x5_38 Q J_38 J x6_52 x7_52 m → I x6_52 x7_52 m) → I x6_52 x7_52 m52
theorem lX7_mends_52_mk (a1 : Int32) (x2_38 : Int32) (x3_38 : Int32) (x4_38 : Int32) (x5_38 : Int32) (Q : Int32 → Mm → Prop) (J_38 : Int32 → Int32 → Int32 → Int32 → Mm → Prop) (x6_52 : Int32) (x7_52 : Int32) (m52 : Mm) (h : bX7_mends_52 a1 x2_38 x3_38 x4_38 x5_38 Q J_38 (lX7_mends_52 a1 x2_38 x3_38 x4_38 x5_38 Q J_38) x6_52 x7_52 m52) : lX7_mends_52 a1 x2_38 x3_38 x4_38 x5_38 Q J_38 x6_52 x7_52 m52 := fun I hI => hI (lX7_mends_52 a1 x2_38 x3_38 x4_38 x5_38 Q J_38) (fun _ _ _ q => q I hI) _ _ _ h
def bX7_mends_38 (a1 : Int32) (Q : Int32 → Mm → Prop) (J_38 : Int32 → Int32 → Int32 → Int32 → Mm → Prop) (x2_38 : Int32) (x3_38 : Int32) (x4_38 : Int32) (x5_38 : Int32) (m38 : Mm) : Prop := (((1000 : Int32) ≤ x5_38 → ((a1 = 0 → (Q x2_38 m38)) ∧ (¬ a1 = 0 → ((a1 = (1 : Int32) → (Q x3_38 m38)) ∧ (¬ a1 = (1 : Int32) → (Q x4_38 m38)))))) ∧ (¬ (1000 : Int32) ≤ x5_38 → (lX7_mends_52 a1 x2_38 x3_38 x4_38 x5_38 Q J_38 (1 : Int32) (0 : Int32) m38)))
def lX7_mends_38 (a1 : Int32) (Q : Int32 → Mm → Prop) (x2_38 : Int32) (x3_38 : Int32) (x4_38 : Int32) (x5_38 : Int32) (m38 : Mm) : Prop := ∀ I : Int32 → Int32 → Int32 → Int32 → Mm → Prop, (∀ J : Int32 → Int32 → Int32 → Int32 → Mm → Prop, (∀ (x2_38 : Int32) (x3_38 : Int32) (x4_38 : Int32) (x5_38 : Int32) (m : Mm), J x2_38 x3_38 x4_38 x5_38 m → I x2_38 x3_38 x4_38 x5_38 m) → ∀ (x2_38 : Int32) (x3_38 : Int32) (x4_38 : Int32) (x5_38 : Int32) (m : Mm), bX7_mends_38 a1 Q J x2_38 x3_38 x4_38 x5_38 m → I x2_38 x3_38 x4_38 x5_38 m) → I x2_38 x3_38 x4_38 x5_38 m38
theorem lX7_mends_38_mk (a1 : Int32) (Q : Int32 → Mm → Prop) (x2_38 : Int32) (x3_38 : Int32) (x4_38 : Int32) (x5_38 : Int32) (m38 : Mm) (h : bX7_mends_38 a1 Q (lX7_mends_38 a1 Q) x2_38 x3_38 x4_38 x5_38 m38) : lX7_mends_38 a1 Q x2_38 x3_38 x4_38 x5_38 m38 := fun I hI => hI (lX7_mends_38 a1 Q) (fun _ _ _ _ _ q => q I hI) _ _ _ _ _ h
def wX7_mends (a1 : Int32) (Q : Int32 → Mm → Prop) (M : Mm) : Prop := (wX7_within a1 (0 : Int32) (2 : Int32) (fun r_1 M_1 => ((r_1 = 0 → (Q (-2 : Int32) M_1)) ∧ (¬ r_1 = 0 → (((gi M_1 28) = 0 → (Q (-3 : Int32) M_1)) ∧ (¬ (gi M_1 28) = 0 → (wX7_findBest (fun M_4 => (lX7_mends_38 a1 Q (-9 : Int32) (-9 : Int32) (0 : Int32) (0 : Int32) M_4)) M_1)))))) M)
set_option maxHeartbeats 4000000 in
set_option maxRecDepth 100000 in
theorem ctX7_mends (l : Launch) (D : va_G) (cI cJ : ClassId) (ad : Nat → Nat) (had : inj54 ad) (a1 : Int32) (Q : Int32 → Mm → Prop) (M : Mm) (hF : wX7_mends a1 Q M) : Met l yX7_mends wsX7_mends ({ frames := 4, cells := 0, slots := 0, locals := 108 } : Room) (PcW D cI cJ ad M [.ref (ad 32), .int a1]) (QiW D cI cJ ad Q) 0 0 (Fr ad) := by
  refine entW (y := yX7_mends) (ret := some .int) (maxL := 8) (plainFor_of_name (by decide)) rfl (Nat.le_of_ble_eq_true rfl) ?_
  intro p e s m args below meth c ls S hK hr hlocks hP hS hl
  have hx := S.1
  have hb := S.2.1
  have hown := S.2.2.2.1
  have hts := S.2.2.2.2
  have i7 : ∀ w ∈ wsX70, w ∈ wsX7_mends := by decide +kernel
  have k142 := hts (.fieldLink RX7 142 "RopeLineModel" "isPlace" "Z") (by decide +kernel)
  have k152 := hts (.fieldLink RX7 152 "RopeLineModel" "sorts" "I") (by decide +kernel)
  have k56 := hts (.fieldLink RX7 56 "RopeLineModel" "bestRow" "[I") (by decide +kernel)
  have hl : lv_has ls 8 [(0, .ref (ad 32)), (1, .int a1)] := hl
  unfold wX7_mends at hF
  refine lv_iload_n hx hb dX7_mends_0 rfl (lv_at hl 1 rfl) ?_
  refine lv_iconst (v := 0) hx hb dX7_mends_1 (by decide) ?_
  refine lv_iconst (v := 2) hx hb dX7_mends_2 (by decide) ?_
  refine goZ (rS (rest := []) S hK hP (ctX7_within l D cI cJ ad had a1 (0 : Int32) (2 : Int32) _ _ hF) (va_cwS 3 hts gX7_mends_X7_within rfl rfl rfl hdS_X7_within ⟨Nat.le_of_ble_eq_true rfl, Nat.le_of_ble_eq_true rfl⟩) rfl hl.1 rfl (Nat.le_of_ble_eq_true rfl) dX7_mends_3 ⟨Nat.zero_le _, Nat.zero_le _⟩) hS (fun _ h => h) (fun r_1 M_1 H locs hP hS hz_r_1 hF => ?_)
  refine lv_if_ne (tgt := 12) hx hb dX7_mends_6 (by decide) (fun c_2 => ?_) (fun c_2 => ?_)
  · have hF := hF.2 c_2
    refine lv_aload_n hx hb dX7_mends_12 rfl (lv_at hl 0 rfl) ?_
    refine gF S hK hP i7 e_M rfl 7 (by decide) k142 f_M_isPlace dX7_mends_13 ?_
    refine lv_if_ne (tgt := 22) hx hb dX7_mends_16 (by decide) (fun c_3 => ?_) (fun c_3 => ?_)
    · have hF := hF.2 c_3
      refine lv_aload_n hx hb dX7_mends_22 rfl (lv_at hl 0 rfl) ?_
      refine goV (rV (rest := []) S hK hP (ctX7_findBest l D cI cJ ad had  _ _ hF) (cwV 0 hts gX7_mends_X7_findBest rfl rfl rfl hdV_X7_findBest ⟨Nat.le_of_ble_eq_true rfl, Nat.le_of_ble_eq_true rfl⟩) e_M rfl rfl hl.1 rfl (Nat.le_of_ble_eq_true rfl) dX7_mends_23 ⟨Nat.zero_le _, Nat.zero_le _⟩) hS (fun _ h => h) (fun M_4 H locs hP hS hF => ?_)
      refine lv_bipush (v := -9) hx hb dX7_mends_26 (by decide) ?_
      refine lv_istore_n (lv' := [(2, .int (-9 : Int32)), (0, .ref (ad 32)), (1, .int a1)]) hx hb dX7_mends_28 rfl hl (by decide) rfl (fun ls hl => ?_)
      refine lv_bipush (v := -9) hx hb dX7_mends_29 (by decide) ?_
      refine lv_istore_n (lv' := [(3, .int (-9 : Int32)), (2, .int (-9 : Int32)), (0, .ref (ad 32)), (1, .int a1)]) hx hb dX7_mends_31 rfl hl (by decide) rfl (fun ls hl => ?_)
      refine lv_iconst (v := 0) hx hb dX7_mends_32 (by decide) ?_
      refine lv_istore (lv' := [(4, .int (0 : Int32)), (3, .int (-9 : Int32)), (2, .int (-9 : Int32)), (0, .ref (ad 32)), (1, .int a1)]) hx hb dX7_mends_33 hl (by decide) rfl (fun ls hl => ?_)
      refine lv_iconst (v := 0) hx hb dX7_mends_35 (by decide) ?_
      refine lv_istore (lv' := [(5, .int (0 : Int32)), (4, .int (0 : Int32)), (3, .int (-9 : Int32)), (2, .int (-9 : Int32)), (0, .ref (ad 32)), (1, .int a1)]) hx hb dX7_mends_36 hl (by decide) rfl (fun ls hl => ?_)
      have key_38 : ∀ (x2_38 : Int32) (x3_38 : Int32) (x4_38 : Int32) (x5_38 : Int32) (m38 : Mm), (lX7_mends_38 a1 Q x2_38 x3_38 x4_38 x5_38 m38) → Wc p l e ({ frames := 4, cells := 0, slots := 0, locals := 108 } : Room) s m args below meth c D cI cJ ad (MQ below (QiW D cI cJ ad Q) args s 0 0 (Fr ad)) 8 38 [(0, .ref (ad 32)), (1, .int a1), (2, .int x2_38), (3, .int x3_38), (4, .int x4_38), (5, .int x5_38)] m38 := by
        intro x2_38 x3_38 x4_38 x5_38 m38 hL
        refine hL (fun x2_38 x3_38 x4_38 x5_38 m38 => Wc p l e ({ frames := 4, cells := 0, slots := 0, locals := 108 } : Room) s m args below meth c D cI cJ ad (MQ below (QiW D cI cJ ad Q) args s 0 0 (Fr ad)) 8 38 [(0, .ref (ad 32)), (1, .int a1), (2, .int x2_38), (3, .int x3_38), (4, .int x4_38), (5, .int x5_38)] m38) ?_
        intro J_38 hJ_38 x2_38 x3_38 x4_38 x5_38 m38 hF H locs ls hP hS hl
        unfold bX7_mends_38 at hF
        refine lv_iload hx hb dX7_mends_38 (lv_at hl 5 rfl) ?_
        refine lv_sipush (v := 1000) hx hb dX7_mends_40 (by decide) ?_
        refine lv_icmp_ge (tgt := 127) hx hb dX7_mends_43 (by decide) (fun c_5 => ?_) (fun c_5 => ?_)
        · have hF := hF.1 c_5
          refine lv_iload_n hx hb dX7_mends_127 rfl (lv_at hl 1 rfl) ?_
          refine lv_if_ne (tgt := 135) hx hb dX7_mends_128 (by decide) (fun c_6 => ?_) (fun c_6 => ?_)
          · have hF := hF.2 c_6
            refine lv_iload_n hx hb dX7_mends_135 rfl (lv_at hl 1 rfl) ?_
            refine lv_iconst (v := 1) hx hb dX7_mends_136 (by decide) ?_
            refine lv_icmp_ne (tgt := 144) hx hb dX7_mends_137 (by decide) (fun c_7 => ?_) (fun c_7 => ?_)
            · have hF := hF.2 c_7
              refine lv_iload hx hb dX7_mends_144 (lv_at hl 4 rfl) ?_
              exact retI S hr hlocks hP hS hF dX7_mends_146
            · have hF := hF.1 c_7
              refine lv_iload_n hx hb dX7_mends_140 rfl (lv_at hl 3 rfl) ?_
              refine lv_goto (tgt := 146) hx hb dX7_mends_141 (by decide) ?_
              exact retI S hr hlocks hP hS hF dX7_mends_146
          · have hF := hF.1 c_6
            refine lv_iload_n hx hb dX7_mends_131 rfl (lv_at hl 2 rfl) ?_
            refine lv_goto (tgt := 146) hx hb dX7_mends_132 (by decide) ?_
            exact retI S hr hlocks hP hS hF dX7_mends_146
        · have hF := hF.2 c_5
          refine lv_iconst (v := 1) hx hb dX7_mends_46 (by decide) ?_
          refine lv_istore (lv' := [(6, .int (1 : Int32)), (0, .ref (ad 32)), (1, .int a1), (2, .int x2_38), (3, .int x3_38), (4, .int x4_38), (5, .int x5_38)]) hx hb dX7_mends_47 hl (by decide) rfl (fun ls hl => ?_)
          refine lv_iconst (v := 0) hx hb dX7_mends_49 (by decide) ?_
          refine lv_istore (lv' := [(7, .int (0 : Int32)), (6, .int (1 : Int32)), (0, .ref (ad 32)), (1, .int a1), (2, .int x2_38), (3, .int x3_38), (4, .int x4_38), (5, .int x5_38)]) hx hb dX7_mends_50 hl (by decide) rfl (fun ls hl => ?_)
          have key_52 : ∀ (x6_52 : Int32) (x7_52 : Int32) (m52 : Mm), (lX7_mends_52 a1 x2_38 x3_38 x4_38 x5_38 Q J_38 x6_52 x7_52 m52) → Wc p l e ({ frames := 4, cells := 0, slots := 0, locals := 108 } : Room) s m args below meth c D cI cJ ad (MQ below (QiW D cI cJ ad Q) args s 0 0 (Fr ad)) 8 52 [(0, .ref (ad 32)), (1, .int a1), (2, .int x2_38), (3, .int x3_38), (4, .int x4_38), (5, .int x5_38), (6, .int x6_52), (7, .int x7_52)] m52 := by
            intro x6_52 x7_52 m52 hL
            refine hL (fun x6_52 x7_52 m52 => Wc p l e ({ frames := 4, cells := 0, slots := 0, locals := 108 } : Room) s m args below meth c D cI cJ ad (MQ below (QiW D cI cJ ad Q) args s 0 0 (Fr ad)) 8 52 [(0, .ref (ad 32)), (1, .int a1), (2, .int x2_38), (3, .int x3_38), (4, .int x4_38), (5, .int x5_38), (6, .int x6_52), (7, .int x7_52)] m52) ?_
            intro J_52 hJ_52 x6_52 x7_52 m52 hF H locs ls hP hS hl
            unfold bX7_mends_52 at hF
            refine lv_iload hx hb dX7_mends_52 (lv_at hl 7 rfl) ?_
            refine lv_aload_n hx hb dX7_mends_54 rfl (lv_at hl 0 rfl) ?_
            refine gF S hK hP i7 e_M rfl 10 (by decide) k152 f_M_sorts dX7_mends_55 ?_
            refine lv_icmp_ge (tgt := 97) hx hb dX7_mends_58 (by decide) (fun c_8 => ?_) (fun c_8 => ?_)
            · have hF := hF.1 c_8
              refine lv_iload hx hb dX7_mends_97 (lv_at hl 6 rfl) ?_
              refine lv_if_eq (tgt := 121) hx hb dX7_mends_99 (by decide) (fun c_9 => ?_) (fun c_9 => ?_)
              · have hF := hF.1 c_9
                refine lv_iinc (v := (x5_38 + 1)) (lv' := [(5, .int (x5_38 + 1)), (0, .ref (ad 32)), (1, .int a1), (2, .int x2_38), (3, .int x3_38), (4, .int x4_38), (6, .int x6_52), (7, .int x7_52)]) hx hb dX7_mends_121 hl (k := 5) rfl rfl (by decide) rfl (fun ls hl => ?_)
                refine lv_goto (tgt := 38) hx hb dX7_mends_124 (by decide) ?_
                exact hJ_38 _ _ _ _ _ hF _ _ _ hP hS (lv_sub hl [1, 2, 3, 4, 5, 0] rfl)
              · have hF := hF.2 c_9
                refine lv_iload_n hx hb dX7_mends_102 rfl (lv_at hl 2 rfl) ?_
                refine lv_bipush (v := -9) hx hb dX7_mends_103 (by decide) ?_
                refine lv_icmp_ne (tgt := 113) hx hb dX7_mends_105 (by decide) (fun c_10 => ?_) (fun c_10 => ?_)
                · have hF := hF.2 c_10
                  refine lv_iload_n hx hb dX7_mends_113 rfl (lv_at hl 2 rfl) ?_
                  refine lv_istore_n (lv' := [(2, .int x2_38), (0, .ref (ad 32)), (1, .int a1), (3, .int x3_38), (4, .int x4_38), (5, .int x5_38), (6, .int x6_52), (7, .int x7_52)]) hx hb dX7_mends_114 rfl hl (by decide) rfl (fun ls hl => ?_)
                  refine lv_iload hx hb dX7_mends_115 (lv_at hl 5 rfl) ?_
                  refine lv_istore_n (lv' := [(3, .int x5_38), (2, .int x2_38), (0, .ref (ad 32)), (1, .int a1), (4, .int x4_38), (5, .int x5_38), (6, .int x6_52), (7, .int x7_52)]) hx hb dX7_mends_117 rfl hl (by decide) rfl (fun ls hl => ?_)
                  refine lv_iinc (v := (x4_38 + 1)) (lv' := [(4, .int (x4_38 + 1)), (3, .int x5_38), (2, .int x2_38), (0, .ref (ad 32)), (1, .int a1), (5, .int x5_38), (6, .int x6_52), (7, .int x7_52)]) hx hb dX7_mends_118 hl (k := 4) rfl rfl (by decide) rfl (fun ls hl => ?_)
                  refine lv_iinc (v := (x5_38 + 1)) (lv' := [(5, .int (x5_38 + 1)), (4, .int (x4_38 + 1)), (3, .int x5_38), (2, .int x2_38), (0, .ref (ad 32)), (1, .int a1), (6, .int x6_52), (7, .int x7_52)]) hx hb dX7_mends_121 hl (k := 5) rfl rfl (by decide) rfl (fun ls hl => ?_)
                  refine lv_goto (tgt := 38) hx hb dX7_mends_124 (by decide) ?_
                  exact hJ_38 _ _ _ _ _ hF _ _ _ hP hS (lv_sub hl [4, 5, 3, 2, 1, 0] rfl)
                · have hF := hF.1 c_10
                  refine lv_iload hx hb dX7_mends_108 (lv_at hl 5 rfl) ?_
                  refine lv_goto (tgt := 114) hx hb dX7_mends_110 (by decide) ?_
                  refine lv_istore_n (lv' := [(2, .int x5_38), (0, .ref (ad 32)), (1, .int a1), (3, .int x3_38), (4, .int x4_38), (5, .int x5_38), (6, .int x6_52), (7, .int x7_52)]) hx hb dX7_mends_114 rfl hl (by decide) rfl (fun ls hl => ?_)
                  refine lv_iload hx hb dX7_mends_115 (lv_at hl 5 rfl) ?_
                  refine lv_istore_n (lv' := [(3, .int x5_38), (2, .int x5_38), (0, .ref (ad 32)), (1, .int a1), (4, .int x4_38), (5, .int x5_38), (6, .int x6_52), (7, .int x7_52)]) hx hb dX7_mends_117 rfl hl (by decide) rfl (fun ls hl => ?_)
                  refine lv_iinc (v := (x4_38 + 1)) (lv' := [(4, .int (x4_38 + 1)), (3, .int x5_38), (2, .int x5_38), (0, .ref (ad 32)), (1, .int a1), (5, .int x5_38), (6, .int x6_52), (7, .int x7_52)]) hx hb dX7_mends_118 hl (k := 4) rfl rfl (by decide) rfl (fun ls hl => ?_)
                  refine lv_iinc (v := (x5_38 + 1)) (lv' := [(5, .int (x5_38 + 1)), (4, .int (x4_38 + 1)), (3, .int x5_38), (2, .int x5_38), (0, .ref (ad 32)), (1, .int a1), (6, .int x6_52), (7, .int x7_52)]) hx hb dX7_mends_121 hl (k := 5) rfl rfl (by decide) rfl (fun ls hl => ?_)
                  refine lv_goto (tgt := 38) hx hb dX7_mends_124 (by decide) ?_
                  exact hJ_38 _ _ _ _ _ hF _ _ _ hP hS (lv_sub hl [4, 5, 3, 2, 1, 0] rfl)
            · have hF := hF.2 c_8
              refine lv_iload hx hb dX7_mends_61 (lv_at hl 6 rfl) ?_
              refine lv_aload_n hx hb dX7_mends_63 rfl (lv_at hl 0 rfl) ?_
              refine lv_iload hx hb dX7_mends_64 (lv_at hl 7 rfl) ?_
              refine lv_iload hx hb dX7_mends_66 (lv_at hl 5 rfl) ?_
              refine lv_iconst (v := 0) hx hb dX7_mends_68 (by decide) ?_
              refine lv_iconst (v := 0) hx hb dX7_mends_69 (by decide) ?_
              refine goI (rV (rest := [.int x6_52]) S hK hP (ctX7_hisBar l D cI cJ ad had x7_52 x5_38 (0 : Int32) (0 : Int32) _ _ hF) (cwV 4 hts gX7_mends_X7_hisBar rfl rfl rfl hdV_X7_hisBar ⟨Nat.le_of_ble_eq_true rfl, Nat.le_of_ble_eq_true rfl⟩) e_M rfl rfl hl.1 rfl (Nat.le_of_ble_eq_true rfl) dX7_mends_70 ⟨Nat.zero_le _, Nat.zero_le _⟩) hS (fun _ h => h) (fun r_11 M_11 H locs hP hS hF => ?_)
              refine lv_aload_n hx hb dX7_mends_73 rfl (lv_at hl 0 rfl) ?_
              refine gF S hK hP i7 e_M rfl 31 (by decide) k56 f_M_bestRow dX7_mends_74 ?_
              refine lv_iload hx hb dX7_mends_77 (lv_at hl 7 rfl) ?_
              obtain ⟨hb_12, hF⟩ := hF
              refine ldA S hK hP (k := 48) rfl hb_12 dX7_mends_79 ?_
              refine lv_icmp_ne (tgt := 87) hx hb dX7_mends_80 (by decide) (fun c_13 => ?_) (fun c_13 => ?_)
              · have hF := hF.2 c_13
                refine lv_iconst (v := 0) hx hb dX7_mends_87 (by decide) ?_
                refine lv_iand hx hb dX7_mends_88 ?_
                refine lv_istore (lv' := [(6, .int (x6_52 &&& (0 : Int32))), (0, .ref (ad 32)), (1, .int a1), (2, .int x2_38), (3, .int x3_38), (4, .int x4_38), (5, .int x5_38), (7, .int x7_52)]) hx hb dX7_mends_89 hl (by decide) rfl (fun ls hl => ?_)
                refine lv_iinc (v := (x7_52 + 1)) (lv' := [(7, .int (x7_52 + 1)), (6, .int (x6_52 &&& (0 : Int32))), (0, .ref (ad 32)), (1, .int a1), (2, .int x2_38), (3, .int x3_38), (4, .int x4_38), (5, .int x5_38)]) hx hb dX7_mends_91 hl (k := 7) rfl rfl (by decide) rfl (fun ls hl => ?_)
                refine lv_goto (tgt := 52) hx hb dX7_mends_94 (by decide) ?_
                exact hJ_52 _ _ _ hF _ _ _ hP hS (lv_sub hl [2, 3, 4, 5, 6, 7, 1, 0] rfl)
              · have hF := hF.1 c_13
                refine lv_iconst (v := 1) hx hb dX7_mends_83 (by decide) ?_
                refine lv_goto (tgt := 88) hx hb dX7_mends_84 (by decide) ?_
                refine lv_iand hx hb dX7_mends_88 ?_
                refine lv_istore (lv' := [(6, .int (x6_52 &&& (1 : Int32))), (0, .ref (ad 32)), (1, .int a1), (2, .int x2_38), (3, .int x3_38), (4, .int x4_38), (5, .int x5_38), (7, .int x7_52)]) hx hb dX7_mends_89 hl (by decide) rfl (fun ls hl => ?_)
                refine lv_iinc (v := (x7_52 + 1)) (lv' := [(7, .int (x7_52 + 1)), (6, .int (x6_52 &&& (1 : Int32))), (0, .ref (ad 32)), (1, .int a1), (2, .int x2_38), (3, .int x3_38), (4, .int x4_38), (5, .int x5_38)]) hx hb dX7_mends_91 hl (k := 7) rfl rfl (by decide) rfl (fun ls hl => ?_)
                refine lv_goto (tgt := 52) hx hb dX7_mends_94 (by decide) ?_
                exact hJ_52 _ _ _ hF _ _ _ hP hS (lv_sub hl [2, 3, 4, 5, 6, 7, 1, 0] rfl)
          exact key_52 _ _ _ hF _ _ _ hP hS (lv_sub hl [2, 3, 4, 5, 6, 7, 1, 0] rfl)
      exact key_38 _ _ _ _ _ hF _ _ _ hP hS (lv_sub hl [4, 5, 3, 2, 1, 0] rfl)
    · have hF := hF.1 c_3
      refine lv_bipush (v := -3) hx hb dX7_mends_19 (by decide) ?_
      exact retI S hr hlocks hP hS hF dX7_mends_21
  · have hF := hF.1 c_2
    refine lv_bipush (v := -2) hx hb dX7_mends_9 (by decide) ?_
    exact retI S hr hlocks hP hS hF dX7_mends_11
def bX7_layBlind_14 (y2_14 : Int64) (Q : Mm → Prop) (J_14 : Int32 → Mm → Prop) (x4_14 : Int32) (m14 : Mm) : Prop := (((4 : Int32) < x4_14 → (wX7_layWeights (4 : Int32) (fun M_2 => (Q M_2)) m14)) ∧ (¬ (4 : Int32) < x4_14 → ((x4_14 = (4 : Int32) → (vp_in x4_14 8 ∧ (∀ M_19 : Mm, M_19 = (sb m14 42 (vp_updL (gb m14 42) x4_14.toNatClampNeg (0 : Int64))) → ((x4_14 = 0 → (vp_in x4_14 8 ∧ (∀ M_24 : Mm, M_24 = (sb M_19 43 (vp_updL (gb M_19 43) x4_14.toNatClampNeg (0 : Int64))) → (J_14 (x4_14 + 1) M_24)))) ∧ (¬ x4_14 = 0 → (vp_in x4_14 8 ∧ (∀ M_22 : Mm, M_22 = (sb M_19 43 (vp_updL (gb M_19 43) x4_14.toNatClampNeg (((gi M_19 29).toInt64) * ((144 : Int64) - y2_14)))) → (J_14 (x4_14 + 1) M_22)))))))) ∧ (¬ x4_14 = (4 : Int32) → ((x4_14 = 0 → (vp_in x4_14 8 ∧ (∀ M_12 : Mm, M_12 = (sb m14 42 (vp_updL (gb m14 42) x4_14.toNatClampNeg ((12 : Int64) * y2_14))) → ((x4_14 = 0 → (vp_in x4_14 8 ∧ (∀ M_17 : Mm, M_17 = (sb M_12 43 (vp_updL (gb M_12 43) x4_14.toNatClampNeg (0 : Int64))) → (J_14 (x4_14 + 1) M_17)))) ∧ (¬ x4_14 = 0 → (vp_in x4_14 8 ∧ (∀ M_15 : Mm, M_15 = (sb M_12 43 (vp_updL (gb M_12 43) x4_14.toNatClampNeg (((gi M_12 29).toInt64) * ((144 : Int64) - y2_14)))) → (J_14 (x4_14 + 1) M_15)))))))) ∧ (¬ x4_14 = 0 → (vp_in x4_14 8 ∧ (∀ M_5 : Mm, M_5 = (sb m14 42 (vp_updL (gb m14 42) x4_14.toNatClampNeg (((12 : Int64) - ((gi m14 29).toInt64)) * y2_14))) → ((x4_14 = 0 → (vp_in x4_14 8 ∧ (∀ M_10 : Mm, M_10 = (sb M_5 43 (vp_updL (gb M_5 43) x4_14.toNatClampNeg (0 : Int64))) → (J_14 (x4_14 + 1) M_10)))) ∧ (¬ x4_14 = 0 → (vp_in x4_14 8 ∧ (∀ M_8 : Mm, M_8 = (sb M_5 43 (vp_updL (gb M_5 43) x4_14.toNatClampNeg (((gi M_5 29).toInt64) * ((144 : Int64) - y2_14)))) → (J_14 (x4_14 + 1) M_8)))))))))))))
def lX7_layBlind_14 (y2_14 : Int64) (Q : Mm → Prop) (x4_14 : Int32) (m14 : Mm) : Prop := ∀ I : Int32 → Mm → Prop, (∀ J : Int32 → Mm → Prop, (∀ (x4_14 : Int32) (m : Mm), J x4_14 m → I x4_14 m) → ∀ (x4_14 : Int32) (m : Mm), bX7_layBlind_14 y2_14 Q J x4_14 m → I x4_14 m) → I x4_14 m14
theorem lX7_layBlind_14_mk (y2_14 : Int64) (Q : Mm → Prop) (x4_14 : Int32) (m14 : Mm) (h : bX7_layBlind_14 y2_14 Q (lX7_layBlind_14 y2_14 Q) x4_14 m14) : lX7_layBlind_14 y2_14 Q x4_14 m14 := fun I hI => hI (lX7_layBlind_14 y2_14 Q) (fun _ _ q => q I hI) _ _ h
def wX7_layBlind (a1 : Int32) (Q : Mm → Prop) (M : Mm) : Prop := (lX7_layBlind_14 (((ga M 36 (0 : Int32).toNatClampNeg).toInt64) * (a1.toInt64)) Q (0 : Int32) M)
set_option maxHeartbeats 4000000 in
set_option maxRecDepth 100000 in
theorem ctX7_layBlind (l : Launch) (D : va_G) (cI cJ : ClassId) (ad : Nat → Nat) (had : inj54 ad) (a1 : Int32) (Q : Mm → Prop) (M : Mm) (hF : wX7_layBlind a1 Q M) : Met l yX7_layBlind wsX7_layBlind ({ frames := 1, cells := 0, slots := 0, locals := 23 } : Room) (PcW D cI cJ ad M [.ref (ad 32), .int a1]) (QvW D cI cJ ad Q) 0 0 (Fr ad) := by
  refine entW (y := yX7_layBlind) (ret := none) (maxL := 5) (plainFor_of_name (by decide)) rfl (Nat.le_of_ble_eq_true rfl) ?_
  intro p e s m args below meth c ls S hK hr hlocks hP hS hl
  have hx := S.1
  have hb := S.2.1
  have hown := S.2.2.2.1
  have hts := S.2.2.2.2
  have i7 : ∀ w ∈ wsX70, w ∈ wsX7_layBlind := by decide +kernel
  have k19 := hts (.fieldLink RX7 19 "RopeLineModel" "twelfths" "[I") (by decide +kernel)
  have k37 := hts (.fieldLink RX7 37 "RopeLineModel" "ups" "[J") (by decide +kernel)
  have k146 := hts (.fieldLink RX7 146 "RopeLineModel" "served" "I") (by decide +kernel)
  have k41 := hts (.fieldLink RX7 41 "RopeLineModel" "downs" "[J") (by decide +kernel)
  have hl : lv_has ls 5 [(0, .ref (ad 32)), (1, .int a1)] := hl
  unfold wX7_layBlind at hF
  refine lv_aload_n hx hb dX7_layBlind_0 rfl (lv_at hl 0 rfl) ?_
  refine gF S hK hP i7 e_M rfl 11 (by decide) k19 f_M_twelfths dX7_layBlind_1 ?_
  refine lv_iconst (v := 0) hx hb dX7_layBlind_4 (by decide) ?_
  refine ldA S hK hP (k := 36) rfl (show vp_in (0 : Int32) 3 from by unfold vp_in; decide) dX7_layBlind_5 ?_
  refine lv_i2l hx hb dX7_layBlind_6 rfl ?_
  refine lv_iload_n hx hb dX7_layBlind_7 rfl (lv_at hl 1 rfl) ?_
  refine lv_i2l hx hb dX7_layBlind_8 rfl ?_
  refine lv_lmul hx hb dX7_layBlind_9 ?_
  refine lv_lstore_n (lv' := [(2, .long (((ga M 36 (0 : Int32).toNatClampNeg).toInt64) * (a1.toInt64))), (0, .ref (ad 32)), (1, .int a1)]) hx hb dX7_layBlind_10 rfl hl (by decide) rfl (fun ls hl => ?_)
  refine lv_iconst (v := 0) hx hb dX7_layBlind_11 (by decide) ?_
  refine lv_istore (lv' := [(4, .int (0 : Int32)), (2, .long (((ga M 36 (0 : Int32).toNatClampNeg).toInt64) * (a1.toInt64))), (0, .ref (ad 32)), (1, .int a1)]) hx hb dX7_layBlind_12 hl (by decide) rfl (fun ls hl => ?_)
  have key_14 : ∀ (y2_14 : Int64) (x4_14 : Int32) (m14 : Mm), (lX7_layBlind_14 y2_14 Q x4_14 m14) → Wc p l e ({ frames := 1, cells := 0, slots := 0, locals := 23 } : Room) s m args below meth c D cI cJ ad (MQ below (QvW D cI cJ ad Q) args s 0 0 (Fr ad)) 5 14 [(0, .ref (ad 32)), (2, .long y2_14), (4, .int x4_14)] m14 := by
    intro y2_14 x4_14 m14 hL
    refine hL (fun x4_14 m14 => Wc p l e ({ frames := 1, cells := 0, slots := 0, locals := 23 } : Room) s m args below meth c D cI cJ ad (MQ below (QvW D cI cJ ad Q) args s 0 0 (Fr ad)) 5 14 [(0, .ref (ad 32)), (2, .long y2_14), (4, .int x4_14)] m14) ?_
    intro J_14 hJ_14 x4_14 m14 hF H locs ls hP hS hl
    unfold bX7_layBlind_14 at hF
    refine lv_iload hx hb dX7_layBlind_14 (lv_at hl 2 rfl) ?_
    refine lv_iconst (v := 4) hx hb dX7_layBlind_16 (by decide) ?_
    refine lv_icmp_gt (tgt := 92) hx hb dX7_layBlind_17 (by decide) (fun c_1 => ?_) (fun c_1 => ?_)
    · have hF := hF.1 c_1
      refine lv_aload_n hx hb dX7_layBlind_92 rfl (lv_at hl 0 rfl) ?_
      refine lv_iconst (v := 4) hx hb dX7_layBlind_93 (by decide) ?_
      refine goV (rV (rest := []) S hK hP (ctX7_layWeights l D cI cJ ad had (4 : Int32) _ _ hF) (cwV 1 hts gX7_layBlind_X7_layWeights rfl rfl rfl hdV_X7_layWeights ⟨Nat.le_of_ble_eq_true rfl, Nat.le_of_ble_eq_true rfl⟩) e_M rfl rfl hl.1 rfl (Nat.le_of_ble_eq_true rfl) dX7_layBlind_94 ⟨Nat.zero_le _, Nat.zero_le _⟩) hS (fun _ h => h) (fun M_2 H locs hP hS hF => ?_)
      exact retV S hr hlocks hP hS hF dX7_layBlind_97
    · have hF := hF.2 c_1
      refine lv_aload_n hx hb dX7_layBlind_20 rfl (lv_at hl 0 rfl) ?_
      refine gF S hK hP i7 e_M rfl 25 (by decide) k37 f_M_ups dX7_layBlind_21 ?_
      refine lv_iload hx hb dX7_layBlind_24 (lv_at hl 2 rfl) ?_
      refine lv_iload hx hb dX7_layBlind_26 (lv_at hl 2 rfl) ?_
      refine lv_iconst (v := 4) hx hb dX7_layBlind_28 (by decide) ?_
      refine lv_icmp_ne (tgt := 36) hx hb dX7_layBlind_29 (by decide) (fun c_3 => ?_) (fun c_3 => ?_)
      · have hF := hF.2 c_3
        refine lv_iload hx hb dX7_layBlind_36 (lv_at hl 2 rfl) ?_
        refine lv_if_ne (tgt := 47) hx hb dX7_layBlind_38 (by decide) (fun c_4 => ?_) (fun c_4 => ?_)
        · have hF := hF.2 c_4
          refine lv_ldc2 (v := 12) hx hb hown (hts (.constantLong RX7 188 (12)) (by decide +kernel)) dX7_layBlind_47 ?_
          refine lv_aload_n hx hb dX7_layBlind_50 rfl (lv_at hl 0 rfl) ?_
          refine gF S hK hP i7 e_M rfl 8 (by decide) k146 f_M_served dX7_layBlind_51 ?_
          refine lv_i2l hx hb dX7_layBlind_54 rfl ?_
          refine lv_lsub hx hb dX7_layBlind_55 ?_
          refine lv_lload_n hx hb dX7_layBlind_56 rfl (lv_at hl 1 rfl) ?_
          refine lv_lmul hx hb dX7_layBlind_57 ?_
          obtain ⟨hb_6, hF⟩ := hF
          refine stB S hK had hP hS (k := 42) rfl hb_6 dX7_layBlind_58 (fun M_5 H locs eM_5 hP hS => ?_)
          have hF := hF M_5 eM_5
          refine lv_aload_n hx hb dX7_layBlind_59 rfl (lv_at hl 0 rfl) ?_
          refine gF S hK hP i7 e_M rfl 26 (by decide) k41 f_M_downs dX7_layBlind_60 ?_
          refine lv_iload hx hb dX7_layBlind_63 (lv_at hl 2 rfl) ?_
          refine lv_iload hx hb dX7_layBlind_65 (lv_at hl 2 rfl) ?_
          refine lv_if_ne (tgt := 74) hx hb dX7_layBlind_67 (by decide) (fun c_7 => ?_) (fun c_7 => ?_)
          · have hF := hF.2 c_7
            refine lv_aload_n hx hb dX7_layBlind_74 rfl (lv_at hl 0 rfl) ?_
            refine gF S hK hP i7 e_M rfl 8 (by decide) k146 f_M_served dX7_layBlind_75 ?_
            refine lv_i2l hx hb dX7_layBlind_78 rfl ?_
            refine lv_ldc2 (v := 144) hx hb hown (hts (.constantLong RX7 218 (144)) (by decide +kernel)) dX7_layBlind_79 ?_
            refine lv_lload_n hx hb dX7_layBlind_82 rfl (lv_at hl 1 rfl) ?_
            refine lv_lsub hx hb dX7_layBlind_83 ?_
            refine lv_lmul hx hb dX7_layBlind_84 ?_
            obtain ⟨hb_9, hF⟩ := hF
            refine stB S hK had hP hS (k := 43) rfl hb_9 dX7_layBlind_85 (fun M_8 H locs eM_8 hP hS => ?_)
            have hF := hF M_8 eM_8
            refine lv_iinc (v := (x4_14 + 1)) (lv' := [(4, .int (x4_14 + 1)), (0, .ref (ad 32)), (2, .long y2_14)]) hx hb dX7_layBlind_86 hl (k := 2) rfl rfl (by decide) rfl (fun ls hl => ?_)
            refine lv_goto (tgt := 14) hx hb dX7_layBlind_89 (by decide) ?_
            exact hJ_14 _ _ hF _ _ _ hP hS (lv_sub hl [1, 2, 0] rfl)
          · have hF := hF.1 c_7
            refine lv_lconst (v := 0) hx hb dX7_layBlind_70 (by decide) ?_
            refine lv_goto (tgt := 85) hx hb dX7_layBlind_71 (by decide) ?_
            obtain ⟨hb_11, hF⟩ := hF
            refine stB S hK had hP hS (k := 43) rfl hb_11 dX7_layBlind_85 (fun M_10 H locs eM_10 hP hS => ?_)
            have hF := hF M_10 eM_10
            refine lv_iinc (v := (x4_14 + 1)) (lv' := [(4, .int (x4_14 + 1)), (0, .ref (ad 32)), (2, .long y2_14)]) hx hb dX7_layBlind_86 hl (k := 2) rfl rfl (by decide) rfl (fun ls hl => ?_)
            refine lv_goto (tgt := 14) hx hb dX7_layBlind_89 (by decide) ?_
            exact hJ_14 _ _ hF _ _ _ hP hS (lv_sub hl [1, 2, 0] rfl)
        · have hF := hF.1 c_4
          refine lv_ldc2 (v := 12) hx hb hown (hts (.constantLong RX7 188 (12)) (by decide +kernel)) dX7_layBlind_41 ?_
          refine lv_goto (tgt := 56) hx hb dX7_layBlind_44 (by decide) ?_
          refine lv_lload_n hx hb dX7_layBlind_56 rfl (lv_at hl 1 rfl) ?_
          refine lv_lmul hx hb dX7_layBlind_57 ?_
          obtain ⟨hb_13, hF⟩ := hF
          refine stB S hK had hP hS (k := 42) rfl hb_13 dX7_layBlind_58 (fun M_12 H locs eM_12 hP hS => ?_)
          have hF := hF M_12 eM_12
          refine lv_aload_n hx hb dX7_layBlind_59 rfl (lv_at hl 0 rfl) ?_
          refine gF S hK hP i7 e_M rfl 26 (by decide) k41 f_M_downs dX7_layBlind_60 ?_
          refine lv_iload hx hb dX7_layBlind_63 (lv_at hl 2 rfl) ?_
          refine lv_iload hx hb dX7_layBlind_65 (lv_at hl 2 rfl) ?_
          refine lv_if_ne (tgt := 74) hx hb dX7_layBlind_67 (by decide) (fun c_14 => ?_) (fun c_14 => ?_)
          · have hF := hF.2 c_14
            refine lv_aload_n hx hb dX7_layBlind_74 rfl (lv_at hl 0 rfl) ?_
            refine gF S hK hP i7 e_M rfl 8 (by decide) k146 f_M_served dX7_layBlind_75 ?_
            refine lv_i2l hx hb dX7_layBlind_78 rfl ?_
            refine lv_ldc2 (v := 144) hx hb hown (hts (.constantLong RX7 218 (144)) (by decide +kernel)) dX7_layBlind_79 ?_
            refine lv_lload_n hx hb dX7_layBlind_82 rfl (lv_at hl 1 rfl) ?_
            refine lv_lsub hx hb dX7_layBlind_83 ?_
            refine lv_lmul hx hb dX7_layBlind_84 ?_
            obtain ⟨hb_16, hF⟩ := hF
            refine stB S hK had hP hS (k := 43) rfl hb_16 dX7_layBlind_85 (fun M_15 H locs eM_15 hP hS => ?_)
            have hF := hF M_15 eM_15
            refine lv_iinc (v := (x4_14 + 1)) (lv' := [(4, .int (x4_14 + 1)), (0, .ref (ad 32)), (2, .long y2_14)]) hx hb dX7_layBlind_86 hl (k := 2) rfl rfl (by decide) rfl (fun ls hl => ?_)
            refine lv_goto (tgt := 14) hx hb dX7_layBlind_89 (by decide) ?_
            exact hJ_14 _ _ hF _ _ _ hP hS (lv_sub hl [1, 2, 0] rfl)
          · have hF := hF.1 c_14
            refine lv_lconst (v := 0) hx hb dX7_layBlind_70 (by decide) ?_
            refine lv_goto (tgt := 85) hx hb dX7_layBlind_71 (by decide) ?_
            obtain ⟨hb_18, hF⟩ := hF
            refine stB S hK had hP hS (k := 43) rfl hb_18 dX7_layBlind_85 (fun M_17 H locs eM_17 hP hS => ?_)
            have hF := hF M_17 eM_17
            refine lv_iinc (v := (x4_14 + 1)) (lv' := [(4, .int (x4_14 + 1)), (0, .ref (ad 32)), (2, .long y2_14)]) hx hb dX7_layBlind_86 hl (k := 2) rfl rfl (by decide) rfl (fun ls hl => ?_)
            refine lv_goto (tgt := 14) hx hb dX7_layBlind_89 (by decide) ?_
            exact hJ_14 _ _ hF _ _ _ hP hS (lv_sub hl [1, 2, 0] rfl)
      · have hF := hF.1 c_3
        refine lv_lconst (v := 0) hx hb dX7_layBlind_32 (by decide) ?_
        refine lv_goto (tgt := 58) hx hb dX7_layBlind_33 (by decide) ?_
        obtain ⟨hb_20, hF⟩ := hF
        refine stB S hK had hP hS (k := 42) rfl hb_20 dX7_layBlind_58 (fun M_19 H locs eM_19 hP hS => ?_)
        have hF := hF M_19 eM_19
        refine lv_aload_n hx hb dX7_layBlind_59 rfl (lv_at hl 0 rfl) ?_
        refine gF S hK hP i7 e_M rfl 26 (by decide) k41 f_M_downs dX7_layBlind_60 ?_
        refine lv_iload hx hb dX7_layBlind_63 (lv_at hl 2 rfl) ?_
        refine lv_iload hx hb dX7_layBlind_65 (lv_at hl 2 rfl) ?_
        refine lv_if_ne (tgt := 74) hx hb dX7_layBlind_67 (by decide) (fun c_21 => ?_) (fun c_21 => ?_)
        · have hF := hF.2 c_21
          refine lv_aload_n hx hb dX7_layBlind_74 rfl (lv_at hl 0 rfl) ?_
          refine gF S hK hP i7 e_M rfl 8 (by decide) k146 f_M_served dX7_layBlind_75 ?_
          refine lv_i2l hx hb dX7_layBlind_78 rfl ?_
          refine lv_ldc2 (v := 144) hx hb hown (hts (.constantLong RX7 218 (144)) (by decide +kernel)) dX7_layBlind_79 ?_
          refine lv_lload_n hx hb dX7_layBlind_82 rfl (lv_at hl 1 rfl) ?_
          refine lv_lsub hx hb dX7_layBlind_83 ?_
          refine lv_lmul hx hb dX7_layBlind_84 ?_
          obtain ⟨hb_23, hF⟩ := hF
          refine stB S hK had hP hS (k := 43) rfl hb_23 dX7_layBlind_85 (fun M_22 H locs eM_22 hP hS => ?_)
          have hF := hF M_22 eM_22
          refine lv_iinc (v := (x4_14 + 1)) (lv' := [(4, .int (x4_14 + 1)), (0, .ref (ad 32)), (2, .long y2_14)]) hx hb dX7_layBlind_86 hl (k := 2) rfl rfl (by decide) rfl (fun ls hl => ?_)
          refine lv_goto (tgt := 14) hx hb dX7_layBlind_89 (by decide) ?_
          exact hJ_14 _ _ hF _ _ _ hP hS (lv_sub hl [1, 2, 0] rfl)
        · have hF := hF.1 c_21
          refine lv_lconst (v := 0) hx hb dX7_layBlind_70 (by decide) ?_
          refine lv_goto (tgt := 85) hx hb dX7_layBlind_71 (by decide) ?_
          obtain ⟨hb_25, hF⟩ := hF
          refine stB S hK had hP hS (k := 43) rfl hb_25 dX7_layBlind_85 (fun M_24 H locs eM_24 hP hS => ?_)
          have hF := hF M_24 eM_24
          refine lv_iinc (v := (x4_14 + 1)) (lv' := [(4, .int (x4_14 + 1)), (0, .ref (ad 32)), (2, .long y2_14)]) hx hb dX7_layBlind_86 hl (k := 2) rfl rfl (by decide) rfl (fun ls hl => ?_)
          refine lv_goto (tgt := 14) hx hb dX7_layBlind_89 (by decide) ?_
          exact hJ_14 _ _ hF _ _ _ hP hS (lv_sub hl [1, 2, 0] rfl)
  exact key_14 _ _ _ hF _ _ _ hP hS (lv_sub hl [2, 1, 0] rfl)
def wX7_blind (a1 : Int32) (a2 : Int32) (a3 : Int32) (Q : Int64 → Mm → Prop) (M : Mm) : Prop := (wX7_within a1 (0 : Int32) (12 : Int32) (fun r_1 M_1 => ((r_1 = 0 → (Q (-9223372036854775808 : Int64) M_1)) ∧ (¬ r_1 = 0 → (wX7_within a2 (0 : Int32) (4 : Int32) (fun r_3 M_3 => ((r_3 = 0 → (Q (-9223372036854775808 : Int64) M_3)) ∧ (¬ r_3 = 0 → (wX7_isWhich a3 (fun r_5 M_5 => ((r_5 = 0 → (Q (-9223372036854775808 : Int64) M_5)) ∧ (¬ r_5 = 0 → (((gi M_5 28) = 0 → (Q (-9223372036854775808 : Int64) M_5)) ∧ (¬ (gi M_5 28) = 0 → (((gi M_5 31) = (1 : Int32) → (wX7_layBlind a1 (fun M_9 => (vp_in a2 8 ∧ (wX7_allWeights (fun r_11 M_11 => (wX7_share (gb M_9 44 a2.toNatClampNeg) r_11 (fun M_12 => (wX7_told a3 (fun r_13 M_13 => (Q r_13 M_13)) M_12)) M_11)) M_9))) M_5)) ∧ (¬ (gi M_5 31) = (1 : Int32) → (Q (-9223372036854775808 : Int64) M_5)))))))) M_3)))) M_1)))) M)
set_option maxHeartbeats 4000000 in
set_option maxRecDepth 100000 in
theorem ctX7_blind (l : Launch) (D : va_G) (cI cJ : ClassId) (ad : Nat → Nat) (had : inj54 ad) (a1 : Int32) (a2 : Int32) (a3 : Int32) (Q : Int64 → Mm → Prop) (M : Mm) (hF : wX7_blind a1 a2 a3 Q M) : Met l yX7_blind wsX7_blind ({ frames := 2, cells := 0, slots := 0, locals := 55 } : Room) (PcW D cI cJ ad M [.ref (ad 32), .int a1, .int a2, .int a3]) (QlW D cI cJ ad Q) 0 0 (Fr ad) := by
  refine entW (y := yX7_blind) (ret := some .long) (maxL := 4) (plainFor_of_name (by decide)) rfl (Nat.le_of_ble_eq_true rfl) ?_
  intro p e s m args below meth c ls S hK hr hlocks hP hS hl
  have hx := S.1
  have hb := S.2.1
  have hown := S.2.2.2.1
  have hts := S.2.2.2.2
  have i7 : ∀ w ∈ wsX70, w ∈ wsX7_blind := by decide +kernel
  have k142 := hts (.fieldLink RX7 142 "RopeLineModel" "isPlace" "Z") (by decide +kernel)
  have k152 := hts (.fieldLink RX7 152 "RopeLineModel" "sorts" "I") (by decide +kernel)
  have k44 := hts (.fieldLink RX7 44 "RopeLineModel" "weights" "[J") (by decide +kernel)
  have hl : lv_has ls 4 [(0, .ref (ad 32)), (1, .int a1), (2, .int a2), (3, .int a3)] := hl
  unfold wX7_blind at hF
  refine lv_iload_n hx hb dX7_blind_0 rfl (lv_at hl 1 rfl) ?_
  refine lv_iconst (v := 0) hx hb dX7_blind_1 (by decide) ?_
  refine lv_bipush (v := 12) hx hb dX7_blind_2 (by decide) ?_
  refine goZ (rS (rest := []) S hK hP (ctX7_within l D cI cJ ad had a1 (0 : Int32) (12 : Int32) _ _ hF) (va_cwS 3 hts gX7_blind_X7_within rfl rfl rfl hdS_X7_within ⟨Nat.le_of_ble_eq_true rfl, Nat.le_of_ble_eq_true rfl⟩) rfl hl.1 rfl (Nat.le_of_ble_eq_true rfl) dX7_blind_4 ⟨Nat.zero_le _, Nat.zero_le _⟩) hS (fun _ h => h) (fun r_1 M_1 H locs hP hS hz_r_1 hF => ?_)
  refine lv_if_eq (tgt := 41) hx hb dX7_blind_7 (by decide) (fun c_2 => ?_) (fun c_2 => ?_)
  · have hF := hF.1 c_2
    refine lv_ldc2 (v := -9223372036854775808) hx hb hown (hts (.constantLong RX7 78 (-9223372036854775808)) (by decide +kernel)) dX7_blind_41 ?_
    exact retL S hr hlocks hP hS hF dX7_blind_44
  · have hF := hF.2 c_2
    refine lv_iload_n hx hb dX7_blind_10 rfl (lv_at hl 2 rfl) ?_
    refine lv_iconst (v := 0) hx hb dX7_blind_11 (by decide) ?_
    refine lv_iconst (v := 4) hx hb dX7_blind_12 (by decide) ?_
    refine goZ (rS (rest := []) S hK hP (ctX7_within l D cI cJ ad had a2 (0 : Int32) (4 : Int32) _ _ hF) (va_cwS 3 hts gX7_blind_X7_within rfl rfl rfl hdS_X7_within ⟨Nat.le_of_ble_eq_true rfl, Nat.le_of_ble_eq_true rfl⟩) rfl hl.1 rfl (Nat.le_of_ble_eq_true rfl) dX7_blind_13 ⟨Nat.zero_le _, Nat.zero_le _⟩) hS (fun _ h => h) (fun r_3 M_3 H locs hP hS hz_r_3 hF => ?_)
    refine lv_if_eq (tgt := 41) hx hb dX7_blind_16 (by decide) (fun c_4 => ?_) (fun c_4 => ?_)
    · have hF := hF.1 c_4
      refine lv_ldc2 (v := -9223372036854775808) hx hb hown (hts (.constantLong RX7 78 (-9223372036854775808)) (by decide +kernel)) dX7_blind_41 ?_
      exact retL S hr hlocks hP hS hF dX7_blind_44
    · have hF := hF.2 c_4
      refine lv_iload_n hx hb dX7_blind_19 rfl (lv_at hl 3 rfl) ?_
      refine goZ (rS (rest := []) S hK hP (ctX7_isWhich l D cI cJ ad had a3 _ _ hF) (va_cwS 1 hts gX7_blind_X7_isWhich rfl rfl rfl hdS_X7_isWhich ⟨Nat.le_of_ble_eq_true rfl, Nat.le_of_ble_eq_true rfl⟩) rfl hl.1 rfl (Nat.le_of_ble_eq_true rfl) dX7_blind_20 ⟨Nat.zero_le _, Nat.zero_le _⟩) hS (fun _ h => h) (fun r_5 M_5 H locs hP hS hz_r_5 hF => ?_)
      refine lv_if_eq (tgt := 41) hx hb dX7_blind_23 (by decide) (fun c_6 => ?_) (fun c_6 => ?_)
      · have hF := hF.1 c_6
        refine lv_ldc2 (v := -9223372036854775808) hx hb hown (hts (.constantLong RX7 78 (-9223372036854775808)) (by decide +kernel)) dX7_blind_41 ?_
        exact retL S hr hlocks hP hS hF dX7_blind_44
      · have hF := hF.2 c_6
        refine lv_aload_n hx hb dX7_blind_26 rfl (lv_at hl 0 rfl) ?_
        refine gF S hK hP i7 e_M rfl 7 (by decide) k142 f_M_isPlace dX7_blind_27 ?_
        refine lv_if_eq (tgt := 41) hx hb dX7_blind_30 (by decide) (fun c_7 => ?_) (fun c_7 => ?_)
        · have hF := hF.1 c_7
          refine lv_ldc2 (v := -9223372036854775808) hx hb hown (hts (.constantLong RX7 78 (-9223372036854775808)) (by decide +kernel)) dX7_blind_41 ?_
          exact retL S hr hlocks hP hS hF dX7_blind_44
        · have hF := hF.2 c_7
          refine lv_aload_n hx hb dX7_blind_33 rfl (lv_at hl 0 rfl) ?_
          refine gF S hK hP i7 e_M rfl 10 (by decide) k152 f_M_sorts dX7_blind_34 ?_
          refine lv_iconst (v := 1) hx hb dX7_blind_37 (by decide) ?_
          refine lv_icmp_eq (tgt := 45) hx hb dX7_blind_38 (by decide) (fun c_8 => ?_) (fun c_8 => ?_)
          · have hF := hF.1 c_8
            refine lv_aload_n hx hb dX7_blind_45 rfl (lv_at hl 0 rfl) ?_
            refine lv_iload_n hx hb dX7_blind_46 rfl (lv_at hl 1 rfl) ?_
            refine goV (rV (rest := []) S hK hP (ctX7_layBlind l D cI cJ ad had a1 _ _ hF) (cwV 1 hts gX7_blind_X7_layBlind rfl rfl rfl hdV_X7_layBlind ⟨Nat.le_of_ble_eq_true rfl, Nat.le_of_ble_eq_true rfl⟩) e_M rfl rfl hl.1 rfl (Nat.le_of_ble_eq_true rfl) dX7_blind_47 ⟨Nat.zero_le _, Nat.zero_le _⟩) hS (fun _ h => h) (fun M_9 H locs hP hS hF => ?_)
            refine lv_aload_n hx hb dX7_blind_50 rfl (lv_at hl 0 rfl) ?_
            refine lv_aload_n hx hb dX7_blind_51 rfl (lv_at hl 0 rfl) ?_
            refine gF S hK hP i7 e_M rfl 27 (by decide) k44 f_M_weights dX7_blind_52 ?_
            refine lv_iload_n hx hb dX7_blind_55 rfl (lv_at hl 2 rfl) ?_
            obtain ⟨hb_10, hF⟩ := hF
            refine ldB S hK hP (k := 44) rfl hb_10 dX7_blind_56 ?_
            refine lv_aload_n hx hb dX7_blind_57 rfl (lv_at hl 0 rfl) ?_
            refine goL (rV (rest := [.long (gb M_9 44 a2.toNatClampNeg), .ref (ad 32)]) S hK hP (ctX7_allWeights l D cI cJ ad had  _ _ hF) (cwV 0 hts gX7_blind_X7_allWeights rfl rfl rfl hdV_X7_allWeights ⟨Nat.le_of_ble_eq_true rfl, Nat.le_of_ble_eq_true rfl⟩) e_M rfl rfl hl.1 rfl (Nat.le_of_ble_eq_true rfl) dX7_blind_58 ⟨Nat.zero_le _, Nat.zero_le _⟩) hS (fun _ h => h) (fun r_11 M_11 H locs hP hS hF => ?_)
            refine goV (rV (rest := []) S hK hP (ctX7_share l D cI cJ ad had (gb M_9 44 a2.toNatClampNeg) r_11 _ _ hF) (cwV 2 hts gX7_blind_X7_share rfl rfl rfl hdV_X7_share ⟨Nat.le_of_ble_eq_true rfl, Nat.le_of_ble_eq_true rfl⟩) e_M rfl rfl hl.1 rfl (Nat.le_of_ble_eq_true rfl) dX7_blind_61 ⟨Nat.zero_le _, Nat.zero_le _⟩) hS (fun _ h => h) (fun M_12 H locs hP hS hF => ?_)
            refine lv_aload_n hx hb dX7_blind_64 rfl (lv_at hl 0 rfl) ?_
            refine lv_iload_n hx hb dX7_blind_65 rfl (lv_at hl 3 rfl) ?_
            refine goL (rV (rest := []) S hK hP (ctX7_told l D cI cJ ad had a3 _ _ hF) (cwV 1 hts gX7_blind_X7_told rfl rfl rfl hdV_X7_told ⟨Nat.le_of_ble_eq_true rfl, Nat.le_of_ble_eq_true rfl⟩) e_M rfl rfl hl.1 rfl (Nat.le_of_ble_eq_true rfl) dX7_blind_66 ⟨Nat.zero_le _, Nat.zero_le _⟩) hS (fun _ h => h) (fun r_13 M_13 H locs hP hS hF => ?_)
            exact retL S hr hlocks hP hS hF dX7_blind_69
          · have hF := hF.2 c_8
            refine lv_ldc2 (v := -9223372036854775808) hx hb hown (hts (.constantLong RX7 78 (-9223372036854775808)) (by decide +kernel)) dX7_blind_41 ?_
            exact retL S hr hlocks hP hS hF dX7_blind_44
def bX7_rest_41 (x1_22 : Int32) (x2_22 : Int32) (Q : Int32 → Mm → Prop) (J_22 : Int32 → Int32 → Mm → Prop) (J_41 : Int64 → Int64 → Int32 → Mm → Prop) (x3_41 : Int64) (x5_41 : Int64) (x7_41 : Int32) (m41 : Mm) : Prop := (((4 : Int32) ≤ x7_41 → (wX7_compare ((ga m41 37 (0 : Int32).toNatClampNeg).toInt64) ((12 : Int64) * ((gi m41 30).toInt64)) x5_41 (x3_41 * ((gi m41 29).toInt64)) (fun r_6 M_6 => ((r_6 < 0 → (J_22 x1_22 (x2_22 + 1) M_6)) ∧ (¬ r_6 < 0 → (J_22 x2_22 (x2_22 + 1) M_6)))) m41)) ∧ (¬ (4 : Int32) ≤ x7_41 → (wX7_metAt x7_41 (fun r_8 M_8 => (wX7_metAt x7_41 (fun r_9 M_9 => (J_41 (x3_41 + r_8) (x5_41 + (r_9 * ((x7_41 + (1 : Int32)).toInt64))) (x7_41 + 1) M_9)) M_8)) m41)))
def lX7_rest_41 (x1_22 : Int32) (x2_22 : Int32) (Q : Int32 → Mm → Prop) (J_22 : Int32 → Int32 → Mm → Prop) (x3_41 : Int64) (x5_41 : Int64) (x7_41 : Int32) (m41 : Mm) : Prop := ∀ I : Int64 → Int64 → Int32 → Mm → Prop, (∀ J : Int64 → Int64 → Int32 → Mm → Prop, (∀ (x3_41 : Int64) (x5_41 : Int64) (x7_41 : Int32) (m : Mm), J x3_41 x5_41 x7_41 m → I x3_41 x5_41 x7_41 m) → ∀ (x3_41 : Int64) (x5_41 : Int64) (x7_41 : Int32) (m : Mm), bX7_rest_41 x1_22 x2_22 Q J_22 J x3_41 x5_41 x7_41 m → I x3_41 x5_41 x7_41 m) → I x3_41 x5_41 x7_41 m41
theorem lX7_rest_41_mk (x1_22 : Int32) (x2_22 : Int32) (Q : Int32 → Mm → Prop) (J_22 : Int32 → Int32 → Mm → Prop) (x3_41 : Int64) (x5_41 : Int64) (x7_41 : Int32) (m41 : Mm) (h : bX7_rest_41 x1_22 x2_22 Q J_22 (lX7_rest_41 x1_22 x2_22 Q J_22) x3_41 x5_41 x7_41 m41) : lX7_rest_41 x1_22 x2_22 Q J_22 x3_41 x5_41 x7_41 m41 := fun I hI => hI (lX7_rest_41 x1_22 x2_22 Q J_22) (fun _ _ _ _ q => q I hI) _ _ _ _ h
def bX7_rest_22 (Q : Int32 → Mm → Prop) (J_22 : Int32 → Int32 → Mm → Prop) (x1_22 : Int32) (x2_22 : Int32) (m22 : Mm) : Prop := (((12 : Int32) < x2_22 → (Q x1_22 m22)) ∧ (¬ (12 : Int32) < x2_22 → (wX7_layBlind x2_22 (fun M_4 => (lX7_rest_41 x1_22 x2_22 Q J_22 (0 : Int64) (0 : Int64) (0 : Int32) M_4)) m22)))
def lX7_rest_22 (Q : Int32 → Mm → Prop) (x1_22 : Int32) (x2_22 : Int32) (m22 : Mm) : Prop := ∀ I : Int32 → Int32 → Mm → Prop, (∀ J : Int32 → Int32 → Mm → Prop, (∀ (x1_22 : Int32) (x2_22 : Int32) (m : Mm), J x1_22 x2_22 m → I x1_22 x2_22 m) → ∀ (x1_22 : Int32) (x2_22 : Int32) (m : Mm), bX7_rest_22 Q J x1_22 x2_22 m → I x1_22 x2_22 m) → I x1_22 x2_22 m22
theorem lX7_rest_22_mk (Q : Int32 → Mm → Prop) (x1_22 : Int32) (x2_22 : Int32) (m22 : Mm) (h : bX7_rest_22 Q (lX7_rest_22 Q) x1_22 x2_22 m22) : lX7_rest_22 Q x1_22 x2_22 m22 := fun I hI => hI (lX7_rest_22 Q) (fun _ _ _ q => q I hI) _ _ _ h
def wX7_rest (Q : Int32 → Mm → Prop) (M : Mm) : Prop := (((gi M 28) = 0 → (Q (-3 : Int32) M)) ∧ (¬ (gi M 28) = 0 → (((gi M 31) = (1 : Int32) → (lX7_rest_22 Q (0 : Int32) (1 : Int32) M)) ∧ (¬ (gi M 31) = (1 : Int32) → (Q (-3 : Int32) M)))))
set_option maxHeartbeats 4000000 in
set_option maxRecDepth 100000 in
theorem ctX7_rest (l : Launch) (D : va_G) (cI cJ : ClassId) (ad : Nat → Nat) (had : inj54 ad)  (Q : Int32 → Mm → Prop) (M : Mm) (hF : wX7_rest Q M) : Met l yX7_rest wsX7_rest ({ frames := 2, cells := 0, slots := 0, locals := 67 } : Room) (PcW D cI cJ ad M [.ref (ad 32)]) (QiW D cI cJ ad Q) 0 0 (Fr ad) := by
  refine entW (y := yX7_rest) (ret := some .int) (maxL := 8) (plainFor_of_name (by decide)) rfl (Nat.le_of_ble_eq_true rfl) ?_
  intro p e s m args below meth c ls S hK hr hlocks hP hS hl
  have hx := S.1
  have hb := S.2.1
  have hown := S.2.2.2.1
  have hts := S.2.2.2.2
  have i7 : ∀ w ∈ wsX70, w ∈ wsX7_rest := by decide +kernel
  have k142 := hts (.fieldLink RX7 142 "RopeLineModel" "isPlace" "Z") (by decide +kernel)
  have k152 := hts (.fieldLink RX7 152 "RopeLineModel" "sorts" "I") (by decide +kernel)
  have k22 := hts (.fieldLink RX7 22 "RopeLineModel" "worths" "[I") (by decide +kernel)
  have k149 := hts (.fieldLink RX7 149 "RopeLineModel" "cost" "I") (by decide +kernel)
  have k146 := hts (.fieldLink RX7 146 "RopeLineModel" "served" "I") (by decide +kernel)
  have hl : lv_has ls 8 [(0, .ref (ad 32))] := hl
  unfold wX7_rest at hF
  refine lv_aload_n hx hb dX7_rest_0 rfl (lv_at hl 0 rfl) ?_
  refine gF S hK hP i7 e_M rfl 7 (by decide) k142 f_M_isPlace dX7_rest_1 ?_
  refine lv_if_eq (tgt := 15) hx hb dX7_rest_4 (by decide) (fun c_1 => ?_) (fun c_1 => ?_)
  · have hF := hF.1 c_1
    refine lv_bipush (v := -3) hx hb dX7_rest_15 (by decide) ?_
    exact retI S hr hlocks hP hS hF dX7_rest_17
  · have hF := hF.2 c_1
    refine lv_aload_n hx hb dX7_rest_7 rfl (lv_at hl 0 rfl) ?_
    refine gF S hK hP i7 e_M rfl 10 (by decide) k152 f_M_sorts dX7_rest_8 ?_
    refine lv_iconst (v := 1) hx hb dX7_rest_11 (by decide) ?_
    refine lv_icmp_eq (tgt := 18) hx hb dX7_rest_12 (by decide) (fun c_2 => ?_) (fun c_2 => ?_)
    · have hF := hF.1 c_2
      refine lv_iconst (v := 0) hx hb dX7_rest_18 (by decide) ?_
      refine lv_istore_n (lv' := [(1, .int (0 : Int32)), (0, .ref (ad 32))]) hx hb dX7_rest_19 rfl hl (by decide) rfl (fun ls hl => ?_)
      refine lv_iconst (v := 1) hx hb dX7_rest_20 (by decide) ?_
      refine lv_istore_n (lv' := [(2, .int (1 : Int32)), (1, .int (0 : Int32)), (0, .ref (ad 32))]) hx hb dX7_rest_21 rfl hl (by decide) rfl (fun ls hl => ?_)
      have key_22 : ∀ (x1_22 : Int32) (x2_22 : Int32) (m22 : Mm), (lX7_rest_22 Q x1_22 x2_22 m22) → Wc p l e ({ frames := 2, cells := 0, slots := 0, locals := 67 } : Room) s m args below meth c D cI cJ ad (MQ below (QiW D cI cJ ad Q) args s 0 0 (Fr ad)) 8 22 [(0, .ref (ad 32)), (1, .int x1_22), (2, .int x2_22)] m22 := by
        intro x1_22 x2_22 m22 hL
        refine hL (fun x1_22 x2_22 m22 => Wc p l e ({ frames := 2, cells := 0, slots := 0, locals := 67 } : Room) s m args below meth c D cI cJ ad (MQ below (QiW D cI cJ ad Q) args s 0 0 (Fr ad)) 8 22 [(0, .ref (ad 32)), (1, .int x1_22), (2, .int x2_22)] m22) ?_
        intro J_22 hJ_22 x1_22 x2_22 m22 hF H locs ls hP hS hl
        unfold bX7_rest_22 at hF
        refine lv_iload_n hx hb dX7_rest_22 rfl (lv_at hl 2 rfl) ?_
        refine lv_bipush (v := 12) hx hb dX7_rest_23 (by decide) ?_
        refine lv_icmp_gt (tgt := 122) hx hb dX7_rest_25 (by decide) (fun c_3 => ?_) (fun c_3 => ?_)
        · have hF := hF.1 c_3
          refine lv_iload_n hx hb dX7_rest_122 rfl (lv_at hl 1 rfl) ?_
          exact retI S hr hlocks hP hS hF dX7_rest_123
        · have hF := hF.2 c_3
          refine lv_aload_n hx hb dX7_rest_28 rfl (lv_at hl 0 rfl) ?_
          refine lv_iload_n hx hb dX7_rest_29 rfl (lv_at hl 2 rfl) ?_
          refine goV (rV (rest := []) S hK hP (ctX7_layBlind l D cI cJ ad had x2_22 _ _ hF) (cwV 1 hts gX7_rest_X7_layBlind rfl rfl rfl hdV_X7_layBlind ⟨Nat.le_of_ble_eq_true rfl, Nat.le_of_ble_eq_true rfl⟩) e_M rfl rfl hl.1 rfl (Nat.le_of_ble_eq_true rfl) dX7_rest_30 ⟨Nat.zero_le _, Nat.zero_le _⟩) hS (fun _ h => h) (fun M_4 H locs hP hS hF => ?_)
          refine lv_lconst (v := 0) hx hb dX7_rest_33 (by decide) ?_
          refine lv_lstore_n (lv' := [(3, .long (0 : Int64)), (0, .ref (ad 32)), (1, .int x1_22), (2, .int x2_22)]) hx hb dX7_rest_34 rfl hl (by decide) rfl (fun ls hl => ?_)
          refine lv_lconst (v := 0) hx hb dX7_rest_35 (by decide) ?_
          refine lv_lstore (lv' := [(5, .long (0 : Int64)), (3, .long (0 : Int64)), (0, .ref (ad 32)), (1, .int x1_22), (2, .int x2_22)]) hx hb dX7_rest_36 hl (by decide) rfl (fun ls hl => ?_)
          refine lv_iconst (v := 0) hx hb dX7_rest_38 (by decide) ?_
          refine lv_istore (lv' := [(7, .int (0 : Int32)), (5, .long (0 : Int64)), (3, .long (0 : Int64)), (0, .ref (ad 32)), (1, .int x1_22), (2, .int x2_22)]) hx hb dX7_rest_39 hl (by decide) rfl (fun ls hl => ?_)
          have key_41 : ∀ (x3_41 : Int64) (x5_41 : Int64) (x7_41 : Int32) (m41 : Mm), (lX7_rest_41 x1_22 x2_22 Q J_22 x3_41 x5_41 x7_41 m41) → Wc p l e ({ frames := 2, cells := 0, slots := 0, locals := 67 } : Room) s m args below meth c D cI cJ ad (MQ below (QiW D cI cJ ad Q) args s 0 0 (Fr ad)) 8 41 [(0, .ref (ad 32)), (1, .int x1_22), (2, .int x2_22), (3, .long x3_41), (5, .long x5_41), (7, .int x7_41)] m41 := by
            intro x3_41 x5_41 x7_41 m41 hL
            refine hL (fun x3_41 x5_41 x7_41 m41 => Wc p l e ({ frames := 2, cells := 0, slots := 0, locals := 67 } : Room) s m args below meth c D cI cJ ad (MQ below (QiW D cI cJ ad Q) args s 0 0 (Fr ad)) 8 41 [(0, .ref (ad 32)), (1, .int x1_22), (2, .int x2_22), (3, .long x3_41), (5, .long x5_41), (7, .int x7_41)] m41) ?_
            intro J_41 hJ_41 x3_41 x5_41 x7_41 m41 hF H locs ls hP hS hl
            unfold bX7_rest_41 at hF
            refine lv_iload hx hb dX7_rest_41 (lv_at hl 5 rfl) ?_
            refine lv_iconst (v := 4) hx hb dX7_rest_43 (by decide) ?_
            refine lv_icmp_ge (tgt := 79) hx hb dX7_rest_44 (by decide) (fun c_5 => ?_) (fun c_5 => ?_)
            · have hF := hF.1 c_5
              refine lv_aload_n hx hb dX7_rest_79 rfl (lv_at hl 0 rfl) ?_
              refine gF S hK hP i7 e_M rfl 12 (by decide) k22 f_M_worths dX7_rest_80 ?_
              refine lv_iconst (v := 0) hx hb dX7_rest_83 (by decide) ?_
              refine ldA S hK hP (k := 37) rfl (show vp_in (0 : Int32) 3 from by unfold vp_in; decide) dX7_rest_84 ?_
              refine lv_i2l hx hb dX7_rest_85 rfl ?_
              refine lv_ldc2 (v := 12) hx hb hown (hts (.constantLong RX7 188 (12)) (by decide +kernel)) dX7_rest_86 ?_
              refine lv_aload_n hx hb dX7_rest_89 rfl (lv_at hl 0 rfl) ?_
              refine gF S hK hP i7 e_M rfl 9 (by decide) k149 f_M_cost dX7_rest_90 ?_
              refine lv_i2l hx hb dX7_rest_93 rfl ?_
              refine lv_lmul hx hb dX7_rest_94 ?_
              refine lv_lload hx hb dX7_rest_95 (lv_at hl 4 rfl) ?_
              refine lv_lload_n hx hb dX7_rest_97 rfl (lv_at hl 3 rfl) ?_
              refine lv_aload_n hx hb dX7_rest_98 rfl (lv_at hl 0 rfl) ?_
              refine gF S hK hP i7 e_M rfl 8 (by decide) k146 f_M_served dX7_rest_99 ?_
              refine lv_i2l hx hb dX7_rest_102 rfl ?_
              refine lv_lmul hx hb dX7_rest_103 ?_
              refine goI (rS (rest := []) S hK hP (ctX7_compare l D cI cJ ad had ((ga m41 37 (0 : Int32).toNatClampNeg).toInt64) ((12 : Int64) * ((gi m41 30).toInt64)) x5_41 (x3_41 * ((gi m41 29).toInt64)) _ _ hF) (va_cwS 4 hts gX7_rest_X7_compare rfl rfl rfl hdS_X7_compare ⟨Nat.le_of_ble_eq_true rfl, Nat.le_of_ble_eq_true rfl⟩) rfl hl.1 rfl (Nat.le_of_ble_eq_true rfl) dX7_rest_104 ⟨Nat.zero_le _, Nat.zero_le _⟩) hS (fun _ h => h) (fun r_6 M_6 H locs hP hS hF => ?_)
              refine lv_if_lt (tgt := 114) hx hb dX7_rest_107 (by decide) (fun c_7 => ?_) (fun c_7 => ?_)
              · have hF := hF.1 c_7
                refine lv_iload_n hx hb dX7_rest_114 rfl (lv_at hl 1 rfl) ?_
                refine lv_istore_n (lv' := [(1, .int x1_22), (0, .ref (ad 32)), (2, .int x2_22), (3, .long x3_41), (5, .long x5_41), (7, .int x7_41)]) hx hb dX7_rest_115 rfl hl (by decide) rfl (fun ls hl => ?_)
                refine lv_iinc (v := (x2_22 + 1)) (lv' := [(2, .int (x2_22 + 1)), (1, .int x1_22), (0, .ref (ad 32)), (3, .long x3_41), (5, .long x5_41), (7, .int x7_41)]) hx hb dX7_rest_116 hl (k := 2) rfl rfl (by decide) rfl (fun ls hl => ?_)
                refine lv_goto (tgt := 22) hx hb dX7_rest_119 (by decide) ?_
                exact hJ_22 _ _ _ hF _ _ _ hP hS (lv_sub hl [2, 1, 0] rfl)
              · have hF := hF.2 c_7
                refine lv_iload_n hx hb dX7_rest_110 rfl (lv_at hl 2 rfl) ?_
                refine lv_goto (tgt := 115) hx hb dX7_rest_111 (by decide) ?_
                refine lv_istore_n (lv' := [(1, .int x2_22), (0, .ref (ad 32)), (2, .int x2_22), (3, .long x3_41), (5, .long x5_41), (7, .int x7_41)]) hx hb dX7_rest_115 rfl hl (by decide) rfl (fun ls hl => ?_)
                refine lv_iinc (v := (x2_22 + 1)) (lv' := [(2, .int (x2_22 + 1)), (1, .int x2_22), (0, .ref (ad 32)), (3, .long x3_41), (5, .long x5_41), (7, .int x7_41)]) hx hb dX7_rest_116 hl (k := 2) rfl rfl (by decide) rfl (fun ls hl => ?_)
                refine lv_goto (tgt := 22) hx hb dX7_rest_119 (by decide) ?_
                exact hJ_22 _ _ _ hF _ _ _ hP hS (lv_sub hl [2, 1, 0] rfl)
            · have hF := hF.2 c_5
              refine lv_lload_n hx hb dX7_rest_47 rfl (lv_at hl 3 rfl) ?_
              refine lv_aload_n hx hb dX7_rest_48 rfl (lv_at hl 0 rfl) ?_
              refine lv_iload hx hb dX7_rest_49 (lv_at hl 5 rfl) ?_
              refine goL (rV (rest := [.long x3_41]) S hK hP (ctX7_metAt l D cI cJ ad had x7_41 _ _ hF) (cwV 1 hts gX7_rest_X7_metAt rfl rfl rfl hdV_X7_metAt ⟨Nat.le_of_ble_eq_true rfl, Nat.le_of_ble_eq_true rfl⟩) e_M rfl rfl hl.1 rfl (Nat.le_of_ble_eq_true rfl) dX7_rest_51 ⟨Nat.zero_le _, Nat.zero_le _⟩) hS (fun _ h => h) (fun r_8 M_8 H locs hP hS hF => ?_)
              refine lv_ladd hx hb dX7_rest_54 ?_
              refine lv_lstore_n (lv' := [(3, .long (x3_41 + r_8)), (0, .ref (ad 32)), (1, .int x1_22), (2, .int x2_22), (5, .long x5_41), (7, .int x7_41)]) hx hb dX7_rest_55 rfl hl (by decide) rfl (fun ls hl => ?_)
              refine lv_lload hx hb dX7_rest_56 (lv_at hl 4 rfl) ?_
              refine lv_aload_n hx hb dX7_rest_58 rfl (lv_at hl 1 rfl) ?_
              refine lv_iload hx hb dX7_rest_59 (lv_at hl 5 rfl) ?_
              refine goL (rV (rest := [.long x5_41]) S hK hP (ctX7_metAt l D cI cJ ad had x7_41 _ _ hF) (cwV 1 hts gX7_rest_X7_metAt rfl rfl rfl hdV_X7_metAt ⟨Nat.le_of_ble_eq_true rfl, Nat.le_of_ble_eq_true rfl⟩) e_M rfl rfl hl.1 rfl (Nat.le_of_ble_eq_true rfl) dX7_rest_61 ⟨Nat.zero_le _, Nat.zero_le _⟩) hS (fun _ h => h) (fun r_9 M_9 H locs hP hS hF => ?_)
              refine lv_iload hx hb dX7_rest_64 (lv_at hl 5 rfl) ?_
              refine lv_iconst (v := 1) hx hb dX7_rest_66 (by decide) ?_
              refine lv_iadd hx hb dX7_rest_67 ?_
              refine lv_i2l hx hb dX7_rest_68 rfl ?_
              refine lv_lmul hx hb dX7_rest_69 ?_
              refine lv_ladd hx hb dX7_rest_70 ?_
              refine lv_lstore (lv' := [(5, .long (x5_41 + (r_9 * ((x7_41 + (1 : Int32)).toInt64)))), (3, .long (x3_41 + r_8)), (0, .ref (ad 32)), (1, .int x1_22), (2, .int x2_22), (7, .int x7_41)]) hx hb dX7_rest_71 hl (by decide) rfl (fun ls hl => ?_)
              refine lv_iinc (v := (x7_41 + 1)) (lv' := [(7, .int (x7_41 + 1)), (5, .long (x5_41 + (r_9 * ((x7_41 + (1 : Int32)).toInt64)))), (3, .long (x3_41 + r_8)), (0, .ref (ad 32)), (1, .int x1_22), (2, .int x2_22)]) hx hb dX7_rest_73 hl (k := 5) rfl rfl (by decide) rfl (fun ls hl => ?_)
              refine lv_goto (tgt := 41) hx hb dX7_rest_76 (by decide) ?_
              exact hJ_41 _ _ _ _ hF _ _ _ hP hS (lv_sub hl [3, 4, 5, 2, 1, 0] rfl)
          exact key_41 _ _ _ _ hF _ _ _ hP hS (lv_sub hl [3, 4, 5, 2, 1, 0] rfl)
      exact key_22 _ _ _ hF _ _ _ hP hS (lv_sub hl [2, 1, 0] rfl)
    · have hF := hF.2 c_2
      refine lv_bipush (v := -3) hx hb dX7_rest_15 (by decide) ?_
      exact retI S hr hlocks hP hS hF dX7_rest_17
def wX7_order (a1 : Int32) (Q : Int32 → Mm → Prop) (M : Mm) : Prop := (wX7_within a1 (0 : Int32) (2 : Int32) (fun r_1 M_1 => ((r_1 = 0 → (Q (-2 : Int32) M_1)) ∧ (¬ r_1 = 0 → (∀ M_3 : Mm, M_3 = (si M_1 42 a1) → (Q (gi M_1 42) M_3))))) M)
set_option maxHeartbeats 4000000 in
set_option maxRecDepth 100000 in
theorem ctX7_order (l : Launch) (D : va_G) (cI cJ : ClassId) (ad : Nat → Nat) (had : inj54 ad) (a1 : Int32) (Q : Int32 → Mm → Prop) (M : Mm) (hF : wX7_order a1 Q M) : Met l yX7_order wsX7_order ({ frames := 1, cells := 0, slots := 0, locals := 22 } : Room) (PcW D cI cJ ad M [.ref (ad 32), .int a1]) (QiW D cI cJ ad Q) 0 0 (Fr ad) := by
  refine entW (y := yX7_order) (ret := some .int) (maxL := 3) (plainFor_of_name (by decide)) rfl (Nat.le_of_ble_eq_true rfl) ?_
  intro p e s m args below meth c ls S hK hr hlocks hP hS hl
  have hx := S.1
  have hb := S.2.1
  have hown := S.2.2.2.1
  have hts := S.2.2.2.2
  have i7 : ∀ w ∈ wsX70, w ∈ wsX7_order := by decide +kernel
  have k239 := hts (.fieldLink RX7 239 "RopeLineModel" "order" "I") (by decide +kernel)
  have hl : lv_has ls 3 [(0, .ref (ad 32)), (1, .int a1)] := hl
  unfold wX7_order at hF
  refine lv_iload_n hx hb dX7_order_0 rfl (lv_at hl 1 rfl) ?_
  refine lv_iconst (v := 0) hx hb dX7_order_1 (by decide) ?_
  refine lv_iconst (v := 2) hx hb dX7_order_2 (by decide) ?_
  refine goZ (rS (rest := []) S hK hP (ctX7_within l D cI cJ ad had a1 (0 : Int32) (2 : Int32) _ _ hF) (va_cwS 3 hts gX7_order_X7_within rfl rfl rfl hdS_X7_within ⟨Nat.le_of_ble_eq_true rfl, Nat.le_of_ble_eq_true rfl⟩) rfl hl.1 rfl (Nat.le_of_ble_eq_true rfl) dX7_order_3 ⟨Nat.zero_le _, Nat.zero_le _⟩) hS (fun _ h => h) (fun r_1 M_1 H locs hP hS hz_r_1 hF => ?_)
  refine lv_if_ne (tgt := 12) hx hb dX7_order_6 (by decide) (fun c_2 => ?_) (fun c_2 => ?_)
  · have hF := hF.2 c_2
    refine lv_aload_n hx hb dX7_order_12 rfl (lv_at hl 0 rfl) ?_
    refine gF S hK hP i7 e_M rfl 34 (by decide) k239 f_M_order dX7_order_13 ?_
    refine lv_istore_n (lv' := [(2, .int (gi M_1 42)), (0, .ref (ad 32)), (1, .int a1)]) hx hb dX7_order_16 rfl hl (by decide) rfl (fun ls hl => ?_)
    refine lv_aload_n hx hb dX7_order_17 rfl (lv_at hl 1 rfl) ?_
    refine lv_iload_n hx hb dX7_order_18 rfl (lv_at hl 2 rfl) ?_
    refine pF S hK had hP hS i7 tyX7_ok nmX7 e_M rfl 34 (by decide) k239 rfl rfl rfl (Nat.lt_of_lt_of_eq (by decide) len_M.symm) s_M_order dX7_order_19 (fun M_3 H locs eM_3 hP hS => ?_)
    have hF := hF M_3 eM_3
    refine lv_iload_n hx hb dX7_order_22 rfl (lv_at hl 0 rfl) ?_
    exact retI S hr hlocks hP hS hF dX7_order_23
  · have hF := hF.1 c_2
    refine lv_bipush (v := -2) hx hb dX7_order_9 (by decide) ?_
    exact retI S hr hlocks hP hS hF dX7_order_11
def bX7_standing_4 (Q : Int32 → Mm → Prop) (J_4 : Int32 → Int32 → Mm → Prop) (x1_4 : Int32) (x2_4 : Int32) (m4 : Mm) : Prop := (((gi m4 40) ≤ x2_4 → (Q x1_4 m4)) ∧ (¬ (gi m4 40) ≤ x2_4 → (vp_in x2_4 40 ∧ (((ga m4 50 x2_4.toNatClampNeg) = (1 : Int32) → (J_4 (x1_4 + (1 : Int32)) (x2_4 + 1) m4)) ∧ (¬ (ga m4 50 x2_4.toNatClampNeg) = (1 : Int32) → (J_4 (x1_4 + (0 : Int32)) (x2_4 + 1) m4))))))
def lX7_standing_4 (Q : Int32 → Mm → Prop) (x1_4 : Int32) (x2_4 : Int32) (m4 : Mm) : Prop := ∀ I : Int32 → Int32 → Mm → Prop, (∀ J : Int32 → Int32 → Mm → Prop, (∀ (x1_4 : Int32) (x2_4 : Int32) (m : Mm), J x1_4 x2_4 m → I x1_4 x2_4 m) → ∀ (x1_4 : Int32) (x2_4 : Int32) (m : Mm), bX7_standing_4 Q J x1_4 x2_4 m → I x1_4 x2_4 m) → I x1_4 x2_4 m4
theorem lX7_standing_4_mk (Q : Int32 → Mm → Prop) (x1_4 : Int32) (x2_4 : Int32) (m4 : Mm) (h : bX7_standing_4 Q (lX7_standing_4 Q) x1_4 x2_4 m4) : lX7_standing_4 Q x1_4 x2_4 m4 := fun I hI => hI (lX7_standing_4 Q) (fun _ _ _ q => q I hI) _ _ _ h
def wX7_standing (Q : Int32 → Mm → Prop) (M : Mm) : Prop := (lX7_standing_4 Q (0 : Int32) (0 : Int32) M)
set_option maxHeartbeats 4000000 in
set_option maxRecDepth 100000 in
theorem ctX7_standing (l : Launch) (D : va_G) (cI cJ : ClassId) (ad : Nat → Nat) (had : inj54 ad)  (Q : Int32 → Mm → Prop) (M : Mm) (hF : wX7_standing Q M) : Met l yX7_standing wsX7_standing ({ frames := 0, cells := 0, slots := 0, locals := 0 } : Room) (PcW D cI cJ ad M [.ref (ad 32)]) (QiW D cI cJ ad Q) 0 0 (Fr ad) := by
  refine entW (y := yX7_standing) (ret := some .int) (maxL := 3) (plainFor_of_name (by decide)) rfl (Nat.le_of_ble_eq_true rfl) ?_
  intro p e s m args below meth c ls S hK hr hlocks hP hS hl
  have hx := S.1
  have hb := S.2.1
  have hown := S.2.2.2.1
  have hts := S.2.2.2.2
  have i7 : ∀ w ∈ wsX70, w ∈ wsX7_standing := by decide +kernel
  have k164 := hts (.fieldLink RX7 164 "RopeLineModel" "comers" "I") (by decide +kernel)
  have k62 := hts (.fieldLink RX7 62 "RopeLineModel" "comerKind" "[I") (by decide +kernel)
  have hl : lv_has ls 3 [(0, .ref (ad 32))] := hl
  unfold wX7_standing at hF
  refine lv_iconst (v := 0) hx hb dX7_standing_0 (by decide) ?_
  refine lv_istore_n (lv' := [(1, .int (0 : Int32)), (0, .ref (ad 32))]) hx hb dX7_standing_1 rfl hl (by decide) rfl (fun ls hl => ?_)
  refine lv_iconst (v := 0) hx hb dX7_standing_2 (by decide) ?_
  refine lv_istore_n (lv' := [(2, .int (0 : Int32)), (1, .int (0 : Int32)), (0, .ref (ad 32))]) hx hb dX7_standing_3 rfl hl (by decide) rfl (fun ls hl => ?_)
  have key_4 : ∀ (x1_4 : Int32) (x2_4 : Int32) (m4 : Mm), (lX7_standing_4 Q x1_4 x2_4 m4) → Wc p l e ({ frames := 0, cells := 0, slots := 0, locals := 0 } : Room) s m args below meth c D cI cJ ad (MQ below (QiW D cI cJ ad Q) args s 0 0 (Fr ad)) 3 4 [(0, .ref (ad 32)), (1, .int x1_4), (2, .int x2_4)] m4 := by
    intro x1_4 x2_4 m4 hL
    refine hL (fun x1_4 x2_4 m4 => Wc p l e ({ frames := 0, cells := 0, slots := 0, locals := 0 } : Room) s m args below meth c D cI cJ ad (MQ below (QiW D cI cJ ad Q) args s 0 0 (Fr ad)) 3 4 [(0, .ref (ad 32)), (1, .int x1_4), (2, .int x2_4)] m4) ?_
    intro J_4 hJ_4 x1_4 x2_4 m4 hF H locs ls hP hS hl
    unfold bX7_standing_4 at hF
    refine lv_iload_n hx hb dX7_standing_4 rfl (lv_at hl 2 rfl) ?_
    refine lv_aload_n hx hb dX7_standing_5 rfl (lv_at hl 0 rfl) ?_
    refine gF S hK hP i7 e_M rfl 32 (by decide) k164 f_M_comers dX7_standing_6 ?_
    refine lv_icmp_ge (tgt := 36) hx hb dX7_standing_9 (by decide) (fun c_1 => ?_) (fun c_1 => ?_)
    · have hF := hF.1 c_1
      refine lv_iload_n hx hb dX7_standing_36 rfl (lv_at hl 1 rfl) ?_
      exact retI S hr hlocks hP hS hF dX7_standing_37
    · have hF := hF.2 c_1
      refine lv_iload_n hx hb dX7_standing_12 rfl (lv_at hl 1 rfl) ?_
      refine lv_aload_n hx hb dX7_standing_13 rfl (lv_at hl 0 rfl) ?_
      refine gF S hK hP i7 e_M rfl 36 (by decide) k62 f_M_comerKind dX7_standing_14 ?_
      refine lv_iload_n hx hb dX7_standing_17 rfl (lv_at hl 2 rfl) ?_
      obtain ⟨hb_2, hF⟩ := hF
      refine ldA S hK hP (k := 50) rfl hb_2 dX7_standing_18 ?_
      refine lv_iconst (v := 1) hx hb dX7_standing_19 (by decide) ?_
      refine lv_icmp_ne (tgt := 27) hx hb dX7_standing_20 (by decide) (fun c_3 => ?_) (fun c_3 => ?_)
      · have hF := hF.2 c_3
        refine lv_iconst (v := 0) hx hb dX7_standing_27 (by decide) ?_
        refine lv_iadd hx hb dX7_standing_28 ?_
        refine lv_istore_n (lv' := [(1, .int (x1_4 + (0 : Int32))), (0, .ref (ad 32)), (2, .int x2_4)]) hx hb dX7_standing_29 rfl hl (by decide) rfl (fun ls hl => ?_)
        refine lv_iinc (v := (x2_4 + 1)) (lv' := [(2, .int (x2_4 + 1)), (1, .int (x1_4 + (0 : Int32))), (0, .ref (ad 32))]) hx hb dX7_standing_30 hl (k := 2) rfl rfl (by decide) rfl (fun ls hl => ?_)
        refine lv_goto (tgt := 4) hx hb dX7_standing_33 (by decide) ?_
        exact hJ_4 _ _ _ hF _ _ _ hP hS (lv_sub hl [2, 1, 0] rfl)
      · have hF := hF.1 c_3
        refine lv_iconst (v := 1) hx hb dX7_standing_23 (by decide) ?_
        refine lv_goto (tgt := 28) hx hb dX7_standing_24 (by decide) ?_
        refine lv_iadd hx hb dX7_standing_28 ?_
        refine lv_istore_n (lv' := [(1, .int (x1_4 + (1 : Int32))), (0, .ref (ad 32)), (2, .int x2_4)]) hx hb dX7_standing_29 rfl hl (by decide) rfl (fun ls hl => ?_)
        refine lv_iinc (v := (x2_4 + 1)) (lv' := [(2, .int (x2_4 + 1)), (1, .int (x1_4 + (1 : Int32))), (0, .ref (ad 32))]) hx hb dX7_standing_30 hl (k := 2) rfl rfl (by decide) rfl (fun ls hl => ?_)
        refine lv_goto (tgt := 4) hx hb dX7_standing_33 (by decide) ?_
        exact hJ_4 _ _ _ hF _ _ _ hP hS (lv_sub hl [2, 1, 0] rfl)
  exact key_4 _ _ _ hF _ _ _ hP hS (lv_sub hl [2, 1, 0] rfl)
def bX7_nextServed_5 (Q : Int32 → Mm → Prop) (J_5 : Int32 → Int32 → Mm → Prop) (x1_5 : Int32) (x2_5 : Int32) (m5 : Mm) : Prop := (((gi m5 40) ≤ x2_5 → (Q x1_5 m5)) ∧ (¬ (gi m5 40) ≤ x2_5 → (vp_in x2_5 40 ∧ (((ga m5 50 x2_5.toNatClampNeg) = (1 : Int32) → ((x1_5 = (-9 : Int32) → (J_5 x2_5 (x2_5 + 1) m5)) ∧ (¬ x1_5 = (-9 : Int32) → (((gi m5 42) = (1 : Int32) → (J_5 x2_5 (x2_5 + 1) m5)) ∧ (¬ (gi m5 42) = (1 : Int32) → (((gi m5 42) = (2 : Int32) → (vp_in x2_5 40 ∧ (vp_in (ga m5 49 x2_5.toNatClampNeg) 3 ∧ (vp_in x1_5 40 ∧ (vp_in (ga m5 49 x1_5.toNatClampNeg) 3 ∧ (((ga m5 37 (ga m5 49 x2_5.toNatClampNeg).toNatClampNeg) ≤ (ga m5 37 (ga m5 49 x1_5.toNatClampNeg).toNatClampNeg) → (J_5 x1_5 (x2_5 + 1) m5)) ∧ (¬ (ga m5 37 (ga m5 49 x2_5.toNatClampNeg).toNatClampNeg) ≤ (ga m5 37 (ga m5 49 x1_5.toNatClampNeg).toNatClampNeg) → (J_5 x2_5 (x2_5 + 1) m5)))))))) ∧ (¬ (gi m5 42) = (2 : Int32) → (J_5 x1_5 (x2_5 + 1) m5)))))))) ∧ (¬ (ga m5 50 x2_5.toNatClampNeg) = (1 : Int32) → (J_5 x1_5 (x2_5 + 1) m5))))))
def lX7_nextServed_5 (Q : Int32 → Mm → Prop) (x1_5 : Int32) (x2_5 : Int32) (m5 : Mm) : Prop := ∀ I : Int32 → Int32 → Mm → Prop, (∀ J : Int32 → Int32 → Mm → Prop, (∀ (x1_5 : Int32) (x2_5 : Int32) (m : Mm), J x1_5 x2_5 m → I x1_5 x2_5 m) → ∀ (x1_5 : Int32) (x2_5 : Int32) (m : Mm), bX7_nextServed_5 Q J x1_5 x2_5 m → I x1_5 x2_5 m) → I x1_5 x2_5 m5
theorem lX7_nextServed_5_mk (Q : Int32 → Mm → Prop) (x1_5 : Int32) (x2_5 : Int32) (m5 : Mm) (h : bX7_nextServed_5 Q (lX7_nextServed_5 Q) x1_5 x2_5 m5) : lX7_nextServed_5 Q x1_5 x2_5 m5 := fun I hI => hI (lX7_nextServed_5 Q) (fun _ _ _ q => q I hI) _ _ _ h
def wX7_nextServed (Q : Int32 → Mm → Prop) (M : Mm) : Prop := (lX7_nextServed_5 Q (-9 : Int32) (0 : Int32) M)
set_option maxHeartbeats 4000000 in
set_option maxRecDepth 100000 in
theorem ctX7_nextServed (l : Launch) (D : va_G) (cI cJ : ClassId) (ad : Nat → Nat) (had : inj54 ad)  (Q : Int32 → Mm → Prop) (M : Mm) (hF : wX7_nextServed Q M) : Met l yX7_nextServed wsX7_nextServed ({ frames := 0, cells := 0, slots := 0, locals := 0 } : Room) (PcW D cI cJ ad M [.ref (ad 32)]) (QiW D cI cJ ad Q) 0 0 (Fr ad) := by
  refine entW (y := yX7_nextServed) (ret := some .int) (maxL := 4) (plainFor_of_name (by decide)) rfl (Nat.le_of_ble_eq_true rfl) ?_
  intro p e s m args below meth c ls S hK hr hlocks hP hS hl
  have hx := S.1
  have hb := S.2.1
  have hown := S.2.2.2.1
  have hts := S.2.2.2.2
  have i7 : ∀ w ∈ wsX70, w ∈ wsX7_nextServed := by decide +kernel
  have k164 := hts (.fieldLink RX7 164 "RopeLineModel" "comers" "I") (by decide +kernel)
  have k62 := hts (.fieldLink RX7 62 "RopeLineModel" "comerKind" "[I") (by decide +kernel)
  have k239 := hts (.fieldLink RX7 239 "RopeLineModel" "order" "I") (by decide +kernel)
  have k22 := hts (.fieldLink RX7 22 "RopeLineModel" "worths" "[I") (by decide +kernel)
  have k59 := hts (.fieldLink RX7 59 "RopeLineModel" "comerSort" "[I") (by decide +kernel)
  have hl : lv_has ls 4 [(0, .ref (ad 32))] := hl
  unfold wX7_nextServed at hF
  refine lv_bipush (v := -9) hx hb dX7_nextServed_0 (by decide) ?_
  refine lv_istore_n (lv' := [(1, .int (-9 : Int32)), (0, .ref (ad 32))]) hx hb dX7_nextServed_2 rfl hl (by decide) rfl (fun ls hl => ?_)
  refine lv_iconst (v := 0) hx hb dX7_nextServed_3 (by decide) ?_
  refine lv_istore_n (lv' := [(2, .int (0 : Int32)), (1, .int (-9 : Int32)), (0, .ref (ad 32))]) hx hb dX7_nextServed_4 rfl hl (by decide) rfl (fun ls hl => ?_)
  have key_5 : ∀ (x1_5 : Int32) (x2_5 : Int32) (m5 : Mm), (lX7_nextServed_5 Q x1_5 x2_5 m5) → Wc p l e ({ frames := 0, cells := 0, slots := 0, locals := 0 } : Room) s m args below meth c D cI cJ ad (MQ below (QiW D cI cJ ad Q) args s 0 0 (Fr ad)) 4 5 [(0, .ref (ad 32)), (1, .int x1_5), (2, .int x2_5)] m5 := by
    intro x1_5 x2_5 m5 hL
    refine hL (fun x1_5 x2_5 m5 => Wc p l e ({ frames := 0, cells := 0, slots := 0, locals := 0 } : Room) s m args below meth c D cI cJ ad (MQ below (QiW D cI cJ ad Q) args s 0 0 (Fr ad)) 4 5 [(0, .ref (ad 32)), (1, .int x1_5), (2, .int x2_5)] m5) ?_
    intro J_5 hJ_5 x1_5 x2_5 m5 hF H locs ls hP hS hl
    unfold bX7_nextServed_5 at hF
    refine lv_iload_n hx hb dX7_nextServed_5 rfl (lv_at hl 2 rfl) ?_
    refine lv_aload_n hx hb dX7_nextServed_6 rfl (lv_at hl 0 rfl) ?_
    refine gF S hK hP i7 e_M rfl 32 (by decide) k164 f_M_comers dX7_nextServed_7 ?_
    refine lv_icmp_ge (tgt := 95) hx hb dX7_nextServed_10 (by decide) (fun c_1 => ?_) (fun c_1 => ?_)
    · have hF := hF.1 c_1
      refine lv_iload_n hx hb dX7_nextServed_95 rfl (lv_at hl 1 rfl) ?_
      exact retI S hr hlocks hP hS hF dX7_nextServed_96
    · have hF := hF.2 c_1
      refine lv_aload_n hx hb dX7_nextServed_13 rfl (lv_at hl 0 rfl) ?_
      refine gF S hK hP i7 e_M rfl 36 (by decide) k62 f_M_comerKind dX7_nextServed_14 ?_
      refine lv_iload_n hx hb dX7_nextServed_17 rfl (lv_at hl 2 rfl) ?_
      obtain ⟨hb_2, hF⟩ := hF
      refine ldA S hK hP (k := 50) rfl hb_2 dX7_nextServed_18 ?_
      refine lv_iconst (v := 1) hx hb dX7_nextServed_19 (by decide) ?_
      refine lv_icmp_eq (tgt := 26) hx hb dX7_nextServed_20 (by decide) (fun c_3 => ?_) (fun c_3 => ?_)
      · have hF := hF.1 c_3
        refine lv_iload_n hx hb dX7_nextServed_26 rfl (lv_at hl 1 rfl) ?_
        refine lv_bipush (v := -9) hx hb dX7_nextServed_27 (by decide) ?_
        refine lv_icmp_eq (tgt := 73) hx hb dX7_nextServed_29 (by decide) (fun c_4 => ?_) (fun c_4 => ?_)
        · have hF := hF.1 c_4
          refine lv_iconst (v := 1) hx hb dX7_nextServed_73 (by decide) ?_
          refine lv_goto (tgt := 78) hx hb dX7_nextServed_74 (by decide) ?_
          refine lv_istore_n (lv' := [(3, .int (1 : Int32)), (0, .ref (ad 32)), (1, .int x1_5), (2, .int x2_5)]) hx hb dX7_nextServed_78 rfl hl (by decide) rfl (fun ls hl => ?_)
          refine lv_iload_n hx hb dX7_nextServed_79 rfl (lv_at hl 0 rfl) ?_
          refine lv_if_eq (tgt := 87) hx hb dX7_nextServed_80 (by decide) (fun c_5 => absurd c_5 (by decide)) (fun _ => ?_)
          refine lv_iload_n hx hb dX7_nextServed_83 rfl (lv_at hl 3 rfl) ?_
          refine lv_goto (tgt := 88) hx hb dX7_nextServed_84 (by decide) ?_
          refine lv_istore_n (lv' := [(1, .int x2_5), (3, .int (1 : Int32)), (0, .ref (ad 32)), (2, .int x2_5)]) hx hb dX7_nextServed_88 rfl hl (by decide) rfl (fun ls hl => ?_)
          refine lv_iinc (v := (x2_5 + 1)) (lv' := [(2, .int (x2_5 + 1)), (1, .int x2_5), (3, .int (1 : Int32)), (0, .ref (ad 32))]) hx hb dX7_nextServed_89 hl (k := 3) rfl rfl (by decide) rfl (fun ls hl => ?_)
          refine lv_goto (tgt := 5) hx hb dX7_nextServed_92 (by decide) ?_
          exact hJ_5 _ _ _ hF _ _ _ hP hS (lv_sub hl [3, 1, 0] rfl)
        · have hF := hF.2 c_4
          refine lv_aload_n hx hb dX7_nextServed_32 rfl (lv_at hl 0 rfl) ?_
          refine gF S hK hP i7 e_M rfl 34 (by decide) k239 f_M_order dX7_nextServed_33 ?_
          refine lv_iconst (v := 1) hx hb dX7_nextServed_36 (by decide) ?_
          refine lv_icmp_eq (tgt := 73) hx hb dX7_nextServed_37 (by decide) (fun c_6 => ?_) (fun c_6 => ?_)
          · have hF := hF.1 c_6
            refine lv_iconst (v := 1) hx hb dX7_nextServed_73 (by decide) ?_
            refine lv_goto (tgt := 78) hx hb dX7_nextServed_74 (by decide) ?_
            refine lv_istore_n (lv' := [(3, .int (1 : Int32)), (0, .ref (ad 32)), (1, .int x1_5), (2, .int x2_5)]) hx hb dX7_nextServed_78 rfl hl (by decide) rfl (fun ls hl => ?_)
            refine lv_iload_n hx hb dX7_nextServed_79 rfl (lv_at hl 0 rfl) ?_
            refine lv_if_eq (tgt := 87) hx hb dX7_nextServed_80 (by decide) (fun c_7 => absurd c_7 (by decide)) (fun _ => ?_)
            refine lv_iload_n hx hb dX7_nextServed_83 rfl (lv_at hl 3 rfl) ?_
            refine lv_goto (tgt := 88) hx hb dX7_nextServed_84 (by decide) ?_
            refine lv_istore_n (lv' := [(1, .int x2_5), (3, .int (1 : Int32)), (0, .ref (ad 32)), (2, .int x2_5)]) hx hb dX7_nextServed_88 rfl hl (by decide) rfl (fun ls hl => ?_)
            refine lv_iinc (v := (x2_5 + 1)) (lv' := [(2, .int (x2_5 + 1)), (1, .int x2_5), (3, .int (1 : Int32)), (0, .ref (ad 32))]) hx hb dX7_nextServed_89 hl (k := 3) rfl rfl (by decide) rfl (fun ls hl => ?_)
            refine lv_goto (tgt := 5) hx hb dX7_nextServed_92 (by decide) ?_
            exact hJ_5 _ _ _ hF _ _ _ hP hS (lv_sub hl [3, 1, 0] rfl)
          · have hF := hF.2 c_6
            refine lv_aload_n hx hb dX7_nextServed_40 rfl (lv_at hl 0 rfl) ?_
            refine gF S hK hP i7 e_M rfl 34 (by decide) k239 f_M_order dX7_nextServed_41 ?_
            refine lv_iconst (v := 2) hx hb dX7_nextServed_44 (by decide) ?_
            refine lv_icmp_ne (tgt := 77) hx hb dX7_nextServed_45 (by decide) (fun c_8 => ?_) (fun c_8 => ?_)
            · have hF := hF.2 c_8
              refine lv_iconst (v := 0) hx hb dX7_nextServed_77 (by decide) ?_
              refine lv_istore_n (lv' := [(3, .int (0 : Int32)), (0, .ref (ad 32)), (1, .int x1_5), (2, .int x2_5)]) hx hb dX7_nextServed_78 rfl hl (by decide) rfl (fun ls hl => ?_)
              refine lv_iload_n hx hb dX7_nextServed_79 rfl (lv_at hl 0 rfl) ?_
              refine lv_if_eq (tgt := 87) hx hb dX7_nextServed_80 (by decide) (fun _ => ?_) (fun c_9 => absurd (by decide) c_9)
              refine lv_iload_n hx hb dX7_nextServed_87 rfl (lv_at hl 2 rfl) ?_
              refine lv_istore_n (lv' := [(1, .int x1_5), (3, .int (0 : Int32)), (0, .ref (ad 32)), (2, .int x2_5)]) hx hb dX7_nextServed_88 rfl hl (by decide) rfl (fun ls hl => ?_)
              refine lv_iinc (v := (x2_5 + 1)) (lv' := [(2, .int (x2_5 + 1)), (1, .int x1_5), (3, .int (0 : Int32)), (0, .ref (ad 32))]) hx hb dX7_nextServed_89 hl (k := 3) rfl rfl (by decide) rfl (fun ls hl => ?_)
              refine lv_goto (tgt := 5) hx hb dX7_nextServed_92 (by decide) ?_
              exact hJ_5 _ _ _ hF _ _ _ hP hS (lv_sub hl [3, 1, 0] rfl)
            · have hF := hF.1 c_8
              refine lv_aload_n hx hb dX7_nextServed_48 rfl (lv_at hl 0 rfl) ?_
              refine gF S hK hP i7 e_M rfl 12 (by decide) k22 f_M_worths dX7_nextServed_49 ?_
              refine lv_aload_n hx hb dX7_nextServed_52 rfl (lv_at hl 0 rfl) ?_
              refine gF S hK hP i7 e_M rfl 35 (by decide) k59 f_M_comerSort dX7_nextServed_53 ?_
              refine lv_iload_n hx hb dX7_nextServed_56 rfl (lv_at hl 2 rfl) ?_
              obtain ⟨hb_10, hF⟩ := hF
              refine ldA S hK hP (k := 49) rfl hb_10 dX7_nextServed_57 ?_
              obtain ⟨hb_11, hF⟩ := hF
              refine ldA S hK hP (k := 37) rfl hb_11 dX7_nextServed_58 ?_
              refine lv_aload_n hx hb dX7_nextServed_59 rfl (lv_at hl 0 rfl) ?_
              refine gF S hK hP i7 e_M rfl 12 (by decide) k22 f_M_worths dX7_nextServed_60 ?_
              refine lv_aload_n hx hb dX7_nextServed_63 rfl (lv_at hl 0 rfl) ?_
              refine gF S hK hP i7 e_M rfl 35 (by decide) k59 f_M_comerSort dX7_nextServed_64 ?_
              refine lv_iload_n hx hb dX7_nextServed_67 rfl (lv_at hl 1 rfl) ?_
              obtain ⟨hb_12, hF⟩ := hF
              refine ldA S hK hP (k := 49) rfl hb_12 dX7_nextServed_68 ?_
              obtain ⟨hb_13, hF⟩ := hF
              refine ldA S hK hP (k := 37) rfl hb_13 dX7_nextServed_69 ?_
              refine lv_icmp_le (tgt := 77) hx hb dX7_nextServed_70 (by decide) (fun c_14 => ?_) (fun c_14 => ?_)
              · have hF := hF.1 c_14
                refine lv_iconst (v := 0) hx hb dX7_nextServed_77 (by decide) ?_
                refine lv_istore_n (lv' := [(3, .int (0 : Int32)), (0, .ref (ad 32)), (1, .int x1_5), (2, .int x2_5)]) hx hb dX7_nextServed_78 rfl hl (by decide) rfl (fun ls hl => ?_)
                refine lv_iload_n hx hb dX7_nextServed_79 rfl (lv_at hl 0 rfl) ?_
                refine lv_if_eq (tgt := 87) hx hb dX7_nextServed_80 (by decide) (fun _ => ?_) (fun c_15 => absurd (by decide) c_15)
                refine lv_iload_n hx hb dX7_nextServed_87 rfl (lv_at hl 2 rfl) ?_
                refine lv_istore_n (lv' := [(1, .int x1_5), (3, .int (0 : Int32)), (0, .ref (ad 32)), (2, .int x2_5)]) hx hb dX7_nextServed_88 rfl hl (by decide) rfl (fun ls hl => ?_)
                refine lv_iinc (v := (x2_5 + 1)) (lv' := [(2, .int (x2_5 + 1)), (1, .int x1_5), (3, .int (0 : Int32)), (0, .ref (ad 32))]) hx hb dX7_nextServed_89 hl (k := 3) rfl rfl (by decide) rfl (fun ls hl => ?_)
                refine lv_goto (tgt := 5) hx hb dX7_nextServed_92 (by decide) ?_
                exact hJ_5 _ _ _ hF _ _ _ hP hS (lv_sub hl [3, 1, 0] rfl)
              · have hF := hF.2 c_14
                refine lv_iconst (v := 1) hx hb dX7_nextServed_73 (by decide) ?_
                refine lv_goto (tgt := 78) hx hb dX7_nextServed_74 (by decide) ?_
                refine lv_istore_n (lv' := [(3, .int (1 : Int32)), (0, .ref (ad 32)), (1, .int x1_5), (2, .int x2_5)]) hx hb dX7_nextServed_78 rfl hl (by decide) rfl (fun ls hl => ?_)
                refine lv_iload_n hx hb dX7_nextServed_79 rfl (lv_at hl 0 rfl) ?_
                refine lv_if_eq (tgt := 87) hx hb dX7_nextServed_80 (by decide) (fun c_16 => absurd c_16 (by decide)) (fun _ => ?_)
                refine lv_iload_n hx hb dX7_nextServed_83 rfl (lv_at hl 3 rfl) ?_
                refine lv_goto (tgt := 88) hx hb dX7_nextServed_84 (by decide) ?_
                refine lv_istore_n (lv' := [(1, .int x2_5), (3, .int (1 : Int32)), (0, .ref (ad 32)), (2, .int x2_5)]) hx hb dX7_nextServed_88 rfl hl (by decide) rfl (fun ls hl => ?_)
                refine lv_iinc (v := (x2_5 + 1)) (lv' := [(2, .int (x2_5 + 1)), (1, .int x2_5), (3, .int (1 : Int32)), (0, .ref (ad 32))]) hx hb dX7_nextServed_89 hl (k := 3) rfl rfl (by decide) rfl (fun ls hl => ?_)
                refine lv_goto (tgt := 5) hx hb dX7_nextServed_92 (by decide) ?_
                exact hJ_5 _ _ _ hF _ _ _ hP hS (lv_sub hl [3, 1, 0] rfl)
      · have hF := hF.2 c_3
        refine lv_goto (tgt := 89) hx hb dX7_nextServed_23 (by decide) ?_
        refine lv_iinc (v := (x2_5 + 1)) (lv' := [(2, .int (x2_5 + 1)), (0, .ref (ad 32)), (1, .int x1_5)]) hx hb dX7_nextServed_89 hl (k := 2) rfl rfl (by decide) rfl (fun ls hl => ?_)
        refine lv_goto (tgt := 5) hx hb dX7_nextServed_92 (by decide) ?_
        exact hJ_5 _ _ _ hF _ _ _ hP hS (lv_sub hl [1, 2, 0] rfl)
  exact key_5 _ _ _ hF _ _ _ hP hS (lv_sub hl [2, 1, 0] rfl)
def bX7_sortBy_4 (Q : Int32 → Mm → Prop) (J_4 : Int32 → Int32 → Mm → Prop) (x2_4 : Int32) (x3_4 : Int32) (m4 : Mm) : Prop := (((gi m4 31) ≤ x3_4 → (Q (-9 : Int32) m4)) ∧ (¬ (gi m4 31) ≤ x3_4 → (vp_in x3_4 3 ∧ (((ga m4 36 x3_4.toNatClampNeg) ≤ x2_4 → (vp_in x3_4 3 ∧ (J_4 (x2_4 - (ga m4 36 x3_4.toNatClampNeg)) (x3_4 + 1) m4))) ∧ (¬ (ga m4 36 x3_4.toNatClampNeg) ≤ x2_4 → (Q x3_4 m4))))))
def lX7_sortBy_4 (Q : Int32 → Mm → Prop) (x2_4 : Int32) (x3_4 : Int32) (m4 : Mm) : Prop := ∀ I : Int32 → Int32 → Mm → Prop, (∀ J : Int32 → Int32 → Mm → Prop, (∀ (x2_4 : Int32) (x3_4 : Int32) (m : Mm), J x2_4 x3_4 m → I x2_4 x3_4 m) → ∀ (x2_4 : Int32) (x3_4 : Int32) (m : Mm), bX7_sortBy_4 Q J x2_4 x3_4 m → I x2_4 x3_4 m) → I x2_4 x3_4 m4
theorem lX7_sortBy_4_mk (Q : Int32 → Mm → Prop) (x2_4 : Int32) (x3_4 : Int32) (m4 : Mm) (h : bX7_sortBy_4 Q (lX7_sortBy_4 Q) x2_4 x3_4 m4) : lX7_sortBy_4 Q x2_4 x3_4 m4 := fun I hI => hI (lX7_sortBy_4 Q) (fun _ _ _ q => q I hI) _ _ _ h
def wX7_sortBy (a1 : Int32) (Q : Int32 → Mm → Prop) (M : Mm) : Prop := (lX7_sortBy_4 Q a1 (0 : Int32) M)
set_option maxHeartbeats 4000000 in
set_option maxRecDepth 100000 in
theorem ctX7_sortBy (l : Launch) (D : va_G) (cI cJ : ClassId) (ad : Nat → Nat) (had : inj54 ad) (a1 : Int32) (Q : Int32 → Mm → Prop) (M : Mm) (hF : wX7_sortBy a1 Q M) : Met l yX7_sortBy wsX7_sortBy ({ frames := 0, cells := 0, slots := 0, locals := 0 } : Room) (PcW D cI cJ ad M [.ref (ad 32), .int a1]) (QiW D cI cJ ad Q) 0 0 (Fr ad) := by
  refine entW (y := yX7_sortBy) (ret := some .int) (maxL := 4) (plainFor_of_name (by decide)) rfl (Nat.le_of_ble_eq_true rfl) ?_
  intro p e s m args below meth c ls S hK hr hlocks hP hS hl
  have hx := S.1
  have hb := S.2.1
  have hown := S.2.2.2.1
  have hts := S.2.2.2.2
  have i7 : ∀ w ∈ wsX70, w ∈ wsX7_sortBy := by decide +kernel
  have k152 := hts (.fieldLink RX7 152 "RopeLineModel" "sorts" "I") (by decide +kernel)
  have k19 := hts (.fieldLink RX7 19 "RopeLineModel" "twelfths" "[I") (by decide +kernel)
  have hl : lv_has ls 4 [(0, .ref (ad 32)), (1, .int a1)] := hl
  unfold wX7_sortBy at hF
  refine lv_iload_n hx hb dX7_sortBy_0 rfl (lv_at hl 1 rfl) ?_
  refine lv_istore_n (lv' := [(2, .int a1), (0, .ref (ad 32)), (1, .int a1)]) hx hb dX7_sortBy_1 rfl hl (by decide) rfl (fun ls hl => ?_)
  refine lv_iconst (v := 0) hx hb dX7_sortBy_2 (by decide) ?_
  refine lv_istore_n (lv' := [(3, .int (0 : Int32)), (2, .int a1), (0, .ref (ad 32)), (1, .int a1)]) hx hb dX7_sortBy_3 rfl hl (by decide) rfl (fun ls hl => ?_)
  have key_4 : ∀ (x2_4 : Int32) (x3_4 : Int32) (m4 : Mm), (lX7_sortBy_4 Q x2_4 x3_4 m4) → Wc p l e ({ frames := 0, cells := 0, slots := 0, locals := 0 } : Room) s m args below meth c D cI cJ ad (MQ below (QiW D cI cJ ad Q) args s 0 0 (Fr ad)) 4 4 [(0, .ref (ad 32)), (2, .int x2_4), (3, .int x3_4)] m4 := by
    intro x2_4 x3_4 m4 hL
    refine hL (fun x2_4 x3_4 m4 => Wc p l e ({ frames := 0, cells := 0, slots := 0, locals := 0 } : Room) s m args below meth c D cI cJ ad (MQ below (QiW D cI cJ ad Q) args s 0 0 (Fr ad)) 4 4 [(0, .ref (ad 32)), (2, .int x2_4), (3, .int x3_4)] m4) ?_
    intro J_4 hJ_4 x2_4 x3_4 m4 hF H locs ls hP hS hl
    unfold bX7_sortBy_4 at hF
    refine lv_iload_n hx hb dX7_sortBy_4 rfl (lv_at hl 2 rfl) ?_
    refine lv_aload_n hx hb dX7_sortBy_5 rfl (lv_at hl 0 rfl) ?_
    refine gF S hK hP i7 e_M rfl 10 (by decide) k152 f_M_sorts dX7_sortBy_6 ?_
    refine lv_icmp_ge (tgt := 39) hx hb dX7_sortBy_9 (by decide) (fun c_1 => ?_) (fun c_1 => ?_)
    · have hF := hF.1 c_1
      refine lv_bipush (v := -9) hx hb dX7_sortBy_39 (by decide) ?_
      exact retI S hr hlocks hP hS hF dX7_sortBy_41
    · have hF := hF.2 c_1
      refine lv_iload_n hx hb dX7_sortBy_12 rfl (lv_at hl 1 rfl) ?_
      refine lv_aload_n hx hb dX7_sortBy_13 rfl (lv_at hl 0 rfl) ?_
      refine gF S hK hP i7 e_M rfl 11 (by decide) k19 f_M_twelfths dX7_sortBy_14 ?_
      refine lv_iload_n hx hb dX7_sortBy_17 rfl (lv_at hl 2 rfl) ?_
      obtain ⟨hb_2, hF⟩ := hF
      refine ldA S hK hP (k := 36) rfl hb_2 dX7_sortBy_18 ?_
      refine lv_icmp_ge (tgt := 24) hx hb dX7_sortBy_19 (by decide) (fun c_3 => ?_) (fun c_3 => ?_)
      · have hF := hF.1 c_3
        refine lv_iload_n hx hb dX7_sortBy_24 rfl (lv_at hl 1 rfl) ?_
        refine lv_aload_n hx hb dX7_sortBy_25 rfl (lv_at hl 0 rfl) ?_
        refine gF S hK hP i7 e_M rfl 11 (by decide) k19 f_M_twelfths dX7_sortBy_26 ?_
        refine lv_iload_n hx hb dX7_sortBy_29 rfl (lv_at hl 2 rfl) ?_
        obtain ⟨hb_4, hF⟩ := hF
        refine ldA S hK hP (k := 36) rfl hb_4 dX7_sortBy_30 ?_
        refine lv_isub hx hb dX7_sortBy_31 ?_
        refine lv_istore_n (lv' := [(2, .int (x2_4 - (ga m4 36 x3_4.toNatClampNeg))), (0, .ref (ad 32)), (3, .int x3_4)]) hx hb dX7_sortBy_32 rfl hl (by decide) rfl (fun ls hl => ?_)
        refine lv_iinc (v := (x3_4 + 1)) (lv' := [(3, .int (x3_4 + 1)), (2, .int (x2_4 - (ga m4 36 x3_4.toNatClampNeg))), (0, .ref (ad 32))]) hx hb dX7_sortBy_33 hl (k := 2) rfl rfl (by decide) rfl (fun ls hl => ?_)
        refine lv_goto (tgt := 4) hx hb dX7_sortBy_36 (by decide) ?_
        exact hJ_4 _ _ _ hF _ _ _ hP hS (lv_sub hl [2, 1, 0] rfl)
      · have hF := hF.2 c_3
        refine lv_iload_n hx hb dX7_sortBy_22 rfl (lv_at hl 2 rfl) ?_
        exact retI S hr hlocks hP hS hF dX7_sortBy_23
  exact key_4 _ _ _ hF _ _ _ hP hS (lv_sub hl [2, 1, 0] rfl)
def bX7_minute_66 (a1 : Int32) (r_6 : Int32) (r_8 : Int32) (Q : Int32 → Mm → Prop) (J_66 : Int32 → Mm → Prop) (x5_66 : Int32) (m66 : Mm) : Prop := (((gi m66 40) ≤ x5_66 → ((r_8 = (-9 : Int32) → ((r_6 = (-9 : Int32) → (∀ M_12 : Mm, M_12 = (si m66 41 ((gi m66 41) + (1 : Int32))) → (Q (0 : Int32) M_12))) ∧ (¬ r_6 = (-9 : Int32) → (wX7_standing (fun r_13 M_13 => (vp_in r_6 3 ∧ (((ga M_13 38 r_6.toNatClampNeg) ≤ r_13 → (vp_in (gi M_13 40) 40 ∧ (∀ M_16 : Mm, M_16 = (sa M_13 49 (upd (ga M_13 49) (gi M_13 40).toNatClampNeg r_6)) → (vp_in (gi M_16 40) 40 ∧ (∀ M_19 : Mm, M_19 = (sa M_16 50 (upd (ga M_16 50) (gi M_16 40).toNatClampNeg (0 : Int32))) → (vp_in (gi M_19 40) 40 ∧ (∀ M_21 : Mm, M_21 = (sa M_19 51 (upd (ga M_19 51) (gi M_19 40).toNatClampNeg (0 : Int32))) → (vp_in (gi M_21 40) 40 ∧ (∀ M_23 : Mm, M_23 = (sa M_21 52 (upd (ga M_21 52) (gi M_21 40).toNatClampNeg (gi M_21 41))) → (vp_in (gi M_23 40) 40 ∧ (∀ M_25 : Mm, M_25 = (sa M_23 53 (upd (ga M_23 53) (gi M_23 40).toNatClampNeg (-9 : Int32))) → (∀ M_27 : Mm, M_27 = (si M_25 40 ((gi M_25 40) + (1 : Int32))) → (∀ M_29 : Mm, M_29 = (si M_27 41 ((gi M_27 41) + (1 : Int32))) → (Q ((0 : Int32) + (1 : Int32)) M_29)))))))))))))) ∧ (¬ (ga M_13 38 r_6.toNatClampNeg) ≤ r_13 → (vp_in (gi M_13 40) 40 ∧ (∀ M_30 : Mm, M_30 = (sa M_13 49 (upd (ga M_13 49) (gi M_13 40).toNatClampNeg r_6)) → (vp_in (gi M_30 40) 40 ∧ (∀ M_33 : Mm, M_33 = (sa M_30 50 (upd (ga M_30 50) (gi M_30 40).toNatClampNeg (1 : Int32))) → (vp_in (gi M_33 40) 40 ∧ (∀ M_35 : Mm, M_35 = (sa M_33 51 (upd (ga M_33 51) (gi M_33 40).toNatClampNeg (0 : Int32))) → (vp_in (gi M_35 40) 40 ∧ (∀ M_37 : Mm, M_37 = (sa M_35 52 (upd (ga M_35 52) (gi M_35 40).toNatClampNeg (gi M_35 41))) → (vp_in (gi M_37 40) 40 ∧ (∀ M_39 : Mm, M_39 = (sa M_37 53 (upd (ga M_37 53) (gi M_37 40).toNatClampNeg (-9 : Int32))) → (∀ M_41 : Mm, M_41 = (si M_39 40 ((gi M_39 40) + (1 : Int32))) → (∀ M_43 : Mm, M_43 = (si M_41 41 ((gi M_41 41) + (1 : Int32))) → (Q ((0 : Int32) + (2 : Int32)) M_43))))))))))))))))) m66)))) ∧ (¬ r_8 = (-9 : Int32) → (((gi m66 29) ≤ a1 → ((r_6 = (-9 : Int32) → (∀ M_46 : Mm, M_46 = (si m66 41 ((gi m66 41) + (1 : Int32))) → (Q (0 : Int32) M_46))) ∧ (¬ r_6 = (-9 : Int32) → (wX7_standing (fun r_47 M_47 => (vp_in r_6 3 ∧ (((ga M_47 38 r_6.toNatClampNeg) ≤ r_47 → (vp_in (gi M_47 40) 40 ∧ (∀ M_50 : Mm, M_50 = (sa M_47 49 (upd (ga M_47 49) (gi M_47 40).toNatClampNeg r_6)) → (vp_in (gi M_50 40) 40 ∧ (∀ M_53 : Mm, M_53 = (sa M_50 50 (upd (ga M_50 50) (gi M_50 40).toNatClampNeg (0 : Int32))) → (vp_in (gi M_53 40) 40 ∧ (∀ M_55 : Mm, M_55 = (sa M_53 51 (upd (ga M_53 51) (gi M_53 40).toNatClampNeg (0 : Int32))) → (vp_in (gi M_55 40) 40 ∧ (∀ M_57 : Mm, M_57 = (sa M_55 52 (upd (ga M_55 52) (gi M_55 40).toNatClampNeg (gi M_55 41))) → (vp_in (gi M_57 40) 40 ∧ (∀ M_59 : Mm, M_59 = (sa M_57 53 (upd (ga M_57 53) (gi M_57 40).toNatClampNeg (-9 : Int32))) → (∀ M_61 : Mm, M_61 = (si M_59 40 ((gi M_59 40) + (1 : Int32))) → (∀ M_63 : Mm, M_63 = (si M_61 41 ((gi M_61 41) + (1 : Int32))) → (Q ((0 : Int32) + (1 : Int32)) M_63)))))))))))))) ∧ (¬ (ga M_47 38 r_6.toNatClampNeg) ≤ r_47 → (vp_in (gi M_47 40) 40 ∧ (∀ M_64 : Mm, M_64 = (sa M_47 49 (upd (ga M_47 49) (gi M_47 40).toNatClampNeg r_6)) → (vp_in (gi M_64 40) 40 ∧ (∀ M_67 : Mm, M_67 = (sa M_64 50 (upd (ga M_64 50) (gi M_64 40).toNatClampNeg (1 : Int32))) → (vp_in (gi M_67 40) 40 ∧ (∀ M_69 : Mm, M_69 = (sa M_67 51 (upd (ga M_67 51) (gi M_67 40).toNatClampNeg (0 : Int32))) → (vp_in (gi M_69 40) 40 ∧ (∀ M_71 : Mm, M_71 = (sa M_69 52 (upd (ga M_69 52) (gi M_69 40).toNatClampNeg (gi M_69 41))) → (vp_in (gi M_71 40) 40 ∧ (∀ M_73 : Mm, M_73 = (sa M_71 53 (upd (ga M_71 53) (gi M_71 40).toNatClampNeg (-9 : Int32))) → (∀ M_75 : Mm, M_75 = (si M_73 40 ((gi M_73 40) + (1 : Int32))) → (∀ M_77 : Mm, M_77 = (si M_75 41 ((gi M_75 41) + (1 : Int32))) → (Q ((0 : Int32) + (2 : Int32)) M_77))))))))))))))))) m66)))) ∧ (¬ (gi m66 29) ≤ a1 → (vp_in r_8 40 ∧ (∀ M_78 : Mm, M_78 = (sa m66 50 (upd (ga m66 50) r_8.toNatClampNeg (2 : Int32))) → (vp_in r_8 40 ∧ (∀ M_80 : Mm, M_80 = (sa M_78 53 (upd (ga M_78 53) r_8.toNatClampNeg (gi M_78 41))) → ((r_6 = (-9 : Int32) → (∀ M_83 : Mm, M_83 = (si M_80 41 ((gi M_80 41) + (1 : Int32))) → (Q ((100 : Int32) * (r_8 + (1 : Int32))) M_83))) ∧ (¬ r_6 = (-9 : Int32) → (wX7_standing (fun r_84 M_84 => (vp_in r_6 3 ∧ (((ga M_84 38 r_6.toNatClampNeg) ≤ r_84 → (vp_in (gi M_84 40) 40 ∧ (∀ M_87 : Mm, M_87 = (sa M_84 49 (upd (ga M_84 49) (gi M_84 40).toNatClampNeg r_6)) → (vp_in (gi M_87 40) 40 ∧ (∀ M_90 : Mm, M_90 = (sa M_87 50 (upd (ga M_87 50) (gi M_87 40).toNatClampNeg (0 : Int32))) → (vp_in (gi M_90 40) 40 ∧ (∀ M_92 : Mm, M_92 = (sa M_90 51 (upd (ga M_90 51) (gi M_90 40).toNatClampNeg (0 : Int32))) → (vp_in (gi M_92 40) 40 ∧ (∀ M_94 : Mm, M_94 = (sa M_92 52 (upd (ga M_92 52) (gi M_92 40).toNatClampNeg (gi M_92 41))) → (vp_in (gi M_94 40) 40 ∧ (∀ M_96 : Mm, M_96 = (sa M_94 53 (upd (ga M_94 53) (gi M_94 40).toNatClampNeg (-9 : Int32))) → (∀ M_98 : Mm, M_98 = (si M_96 40 ((gi M_96 40) + (1 : Int32))) → (∀ M_100 : Mm, M_100 = (si M_98 41 ((gi M_98 41) + (1 : Int32))) → (Q (((100 : Int32) * (r_8 + (1 : Int32))) + (1 : Int32)) M_100)))))))))))))) ∧ (¬ (ga M_84 38 r_6.toNatClampNeg) ≤ r_84 → (vp_in (gi M_84 40) 40 ∧ (∀ M_101 : Mm, M_101 = (sa M_84 49 (upd (ga M_84 49) (gi M_84 40).toNatClampNeg r_6)) → (vp_in (gi M_101 40) 40 ∧ (∀ M_104 : Mm, M_104 = (sa M_101 50 (upd (ga M_101 50) (gi M_101 40).toNatClampNeg (1 : Int32))) → (vp_in (gi M_104 40) 40 ∧ (∀ M_106 : Mm, M_106 = (sa M_104 51 (upd (ga M_104 51) (gi M_104 40).toNatClampNeg (0 : Int32))) → (vp_in (gi M_106 40) 40 ∧ (∀ M_108 : Mm, M_108 = (sa M_106 52 (upd (ga M_106 52) (gi M_106 40).toNatClampNeg (gi M_106 41))) → (vp_in (gi M_108 40) 40 ∧ (∀ M_110 : Mm, M_110 = (sa M_108 53 (upd (ga M_108 53) (gi M_108 40).toNatClampNeg (-9 : Int32))) → (∀ M_112 : Mm, M_112 = (si M_110 40 ((gi M_110 40) + (1 : Int32))) → (∀ M_114 : Mm, M_114 = (si M_112 41 ((gi M_112 41) + (1 : Int32))) → (Q (((100 : Int32) * (r_8 + (1 : Int32))) + (2 : Int32)) M_114))))))))))))))))) M_80)))))))))))) ∧ (¬ (gi m66 40) ≤ x5_66 → (vp_in x5_66 40 ∧ (vp_in x5_66 40 ∧ (((ga m66 50 x5_66.toNatClampNeg) = (1 : Int32) → (vp_in x5_66 40 ∧ (∀ M_120 : Mm, M_120 = (sa m66 51 (upd (ga m66 51) x5_66.toNatClampNeg ((ga m66 51 x5_66.toNatClampNeg) + (1 : Int32)))) → (J_66 (x5_66 + 1) M_120)))) ∧ (¬ (ga m66 50 x5_66.toNatClampNeg) = (1 : Int32) → (vp_in x5_66 40 ∧ (∀ M_118 : Mm, M_118 = (sa m66 51 (upd (ga m66 51) x5_66.toNatClampNeg ((ga m66 51 x5_66.toNatClampNeg) + (0 : Int32)))) → (J_66 (x5_66 + 1) M_118)))))))))
def lX7_minute_66 (a1 : Int32) (r_6 : Int32) (r_8 : Int32) (Q : Int32 → Mm → Prop) (x5_66 : Int32) (m66 : Mm) : Prop := ∀ I : Int32 → Mm → Prop, (∀ J : Int32 → Mm → Prop, (∀ (x5_66 : Int32) (m : Mm), J x5_66 m → I x5_66 m) → ∀ (x5_66 : Int32) (m : Mm), bX7_minute_66 a1 r_6 r_8 Q J x5_66 m → I x5_66 m) → I x5_66 m66
theorem lX7_minute_66_mk (a1 : Int32) (r_6 : Int32) (r_8 : Int32) (Q : Int32 → Mm → Prop) (x5_66 : Int32) (m66 : Mm) (h : bX7_minute_66 a1 r_6 r_8 Q (lX7_minute_66 a1 r_6 r_8 Q) x5_66 m66) : lX7_minute_66 a1 r_6 r_8 Q x5_66 m66 := fun I hI => hI (lX7_minute_66 a1 r_6 r_8 Q) (fun _ _ q => q I hI) _ _ h
def bX7_minute_66a (a1 : Int32) (r_6 : Int32) (r_123 : Int32) (Q : Int32 → Mm → Prop) (J_66 : Int32 → Mm → Prop) (x5_66 : Int32) (m66 : Mm) : Prop := (((gi m66 40) ≤ x5_66 → ((r_123 = (-9 : Int32) → ((r_6 = (-9 : Int32) → (∀ M_127 : Mm, M_127 = (si m66 41 ((gi m66 41) + (1 : Int32))) → (Q (0 : Int32) M_127))) ∧ (¬ r_6 = (-9 : Int32) → (wX7_standing (fun r_128 M_128 => (vp_in r_6 3 ∧ (((ga M_128 38 r_6.toNatClampNeg) ≤ r_128 → (vp_in (gi M_128 40) 40 ∧ (∀ M_131 : Mm, M_131 = (sa M_128 49 (upd (ga M_128 49) (gi M_128 40).toNatClampNeg r_6)) → (vp_in (gi M_131 40) 40 ∧ (∀ M_134 : Mm, M_134 = (sa M_131 50 (upd (ga M_131 50) (gi M_131 40).toNatClampNeg (0 : Int32))) → (vp_in (gi M_134 40) 40 ∧ (∀ M_136 : Mm, M_136 = (sa M_134 51 (upd (ga M_134 51) (gi M_134 40).toNatClampNeg (0 : Int32))) → (vp_in (gi M_136 40) 40 ∧ (∀ M_138 : Mm, M_138 = (sa M_136 52 (upd (ga M_136 52) (gi M_136 40).toNatClampNeg (gi M_136 41))) → (vp_in (gi M_138 40) 40 ∧ (∀ M_140 : Mm, M_140 = (sa M_138 53 (upd (ga M_138 53) (gi M_138 40).toNatClampNeg (-9 : Int32))) → (∀ M_142 : Mm, M_142 = (si M_140 40 ((gi M_140 40) + (1 : Int32))) → (∀ M_144 : Mm, M_144 = (si M_142 41 ((gi M_142 41) + (1 : Int32))) → (Q ((0 : Int32) + (1 : Int32)) M_144)))))))))))))) ∧ (¬ (ga M_128 38 r_6.toNatClampNeg) ≤ r_128 → (vp_in (gi M_128 40) 40 ∧ (∀ M_145 : Mm, M_145 = (sa M_128 49 (upd (ga M_128 49) (gi M_128 40).toNatClampNeg r_6)) → (vp_in (gi M_145 40) 40 ∧ (∀ M_148 : Mm, M_148 = (sa M_145 50 (upd (ga M_145 50) (gi M_145 40).toNatClampNeg (1 : Int32))) → (vp_in (gi M_148 40) 40 ∧ (∀ M_150 : Mm, M_150 = (sa M_148 51 (upd (ga M_148 51) (gi M_148 40).toNatClampNeg (0 : Int32))) → (vp_in (gi M_150 40) 40 ∧ (∀ M_152 : Mm, M_152 = (sa M_150 52 (upd (ga M_150 52) (gi M_150 40).toNatClampNeg (gi M_150 41))) → (vp_in (gi M_152 40) 40 ∧ (∀ M_154 : Mm, M_154 = (sa M_152 53 (upd (ga M_152 53) (gi M_152 40).toNatClampNeg (-9 : Int32))) → (∀ M_156 : Mm, M_156 = (si M_154 40 ((gi M_154 40) + (1 : Int32))) → (∀ M_158 : Mm, M_158 = (si M_156 41 ((gi M_156 41) + (1 : Int32))) → (Q ((0 : Int32) + (2 : Int32)) M_158))))))))))))))))) m66)))) ∧ (¬ r_123 = (-9 : Int32) → (((gi m66 29) ≤ a1 → ((r_6 = (-9 : Int32) → (∀ M_161 : Mm, M_161 = (si m66 41 ((gi m66 41) + (1 : Int32))) → (Q (0 : Int32) M_161))) ∧ (¬ r_6 = (-9 : Int32) → (wX7_standing (fun r_162 M_162 => (vp_in r_6 3 ∧ (((ga M_162 38 r_6.toNatClampNeg) ≤ r_162 → (vp_in (gi M_162 40) 40 ∧ (∀ M_165 : Mm, M_165 = (sa M_162 49 (upd (ga M_162 49) (gi M_162 40).toNatClampNeg r_6)) → (vp_in (gi M_165 40) 40 ∧ (∀ M_168 : Mm, M_168 = (sa M_165 50 (upd (ga M_165 50) (gi M_165 40).toNatClampNeg (0 : Int32))) → (vp_in (gi M_168 40) 40 ∧ (∀ M_170 : Mm, M_170 = (sa M_168 51 (upd (ga M_168 51) (gi M_168 40).toNatClampNeg (0 : Int32))) → (vp_in (gi M_170 40) 40 ∧ (∀ M_172 : Mm, M_172 = (sa M_170 52 (upd (ga M_170 52) (gi M_170 40).toNatClampNeg (gi M_170 41))) → (vp_in (gi M_172 40) 40 ∧ (∀ M_174 : Mm, M_174 = (sa M_172 53 (upd (ga M_172 53) (gi M_172 40).toNatClampNeg (-9 : Int32))) → (∀ M_176 : Mm, M_176 = (si M_174 40 ((gi M_174 40) + (1 : Int32))) → (∀ M_178 : Mm, M_178 = (si M_176 41 ((gi M_176 41) + (1 : Int32))) → (Q ((0 : Int32) + (1 : Int32)) M_178)))))))))))))) ∧ (¬ (ga M_162 38 r_6.toNatClampNeg) ≤ r_162 → (vp_in (gi M_162 40) 40 ∧ (∀ M_179 : Mm, M_179 = (sa M_162 49 (upd (ga M_162 49) (gi M_162 40).toNatClampNeg r_6)) → (vp_in (gi M_179 40) 40 ∧ (∀ M_182 : Mm, M_182 = (sa M_179 50 (upd (ga M_179 50) (gi M_179 40).toNatClampNeg (1 : Int32))) → (vp_in (gi M_182 40) 40 ∧ (∀ M_184 : Mm, M_184 = (sa M_182 51 (upd (ga M_182 51) (gi M_182 40).toNatClampNeg (0 : Int32))) → (vp_in (gi M_184 40) 40 ∧ (∀ M_186 : Mm, M_186 = (sa M_184 52 (upd (ga M_184 52) (gi M_184 40).toNatClampNeg (gi M_184 41))) → (vp_in (gi M_186 40) 40 ∧ (∀ M_188 : Mm, M_188 = (sa M_186 53 (upd (ga M_186 53) (gi M_186 40).toNatClampNeg (-9 : Int32))) → (∀ M_190 : Mm, M_190 = (si M_188 40 ((gi M_188 40) + (1 : Int32))) → (∀ M_192 : Mm, M_192 = (si M_190 41 ((gi M_190 41) + (1 : Int32))) → (Q ((0 : Int32) + (2 : Int32)) M_192))))))))))))))))) m66)))) ∧ (¬ (gi m66 29) ≤ a1 → (vp_in r_123 40 ∧ (∀ M_193 : Mm, M_193 = (sa m66 50 (upd (ga m66 50) r_123.toNatClampNeg (2 : Int32))) → (vp_in r_123 40 ∧ (∀ M_195 : Mm, M_195 = (sa M_193 53 (upd (ga M_193 53) r_123.toNatClampNeg (gi M_193 41))) → ((r_6 = (-9 : Int32) → (∀ M_198 : Mm, M_198 = (si M_195 41 ((gi M_195 41) + (1 : Int32))) → (Q ((100 : Int32) * (r_123 + (1 : Int32))) M_198))) ∧ (¬ r_6 = (-9 : Int32) → (wX7_standing (fun r_199 M_199 => (vp_in r_6 3 ∧ (((ga M_199 38 r_6.toNatClampNeg) ≤ r_199 → (vp_in (gi M_199 40) 40 ∧ (∀ M_202 : Mm, M_202 = (sa M_199 49 (upd (ga M_199 49) (gi M_199 40).toNatClampNeg r_6)) → (vp_in (gi M_202 40) 40 ∧ (∀ M_205 : Mm, M_205 = (sa M_202 50 (upd (ga M_202 50) (gi M_202 40).toNatClampNeg (0 : Int32))) → (vp_in (gi M_205 40) 40 ∧ (∀ M_207 : Mm, M_207 = (sa M_205 51 (upd (ga M_205 51) (gi M_205 40).toNatClampNeg (0 : Int32))) → (vp_in (gi M_207 40) 40 ∧ (∀ M_209 : Mm, M_209 = (sa M_207 52 (upd (ga M_207 52) (gi M_207 40).toNatClampNeg (gi M_207 41))) → (vp_in (gi M_209 40) 40 ∧ (∀ M_211 : Mm, M_211 = (sa M_209 53 (upd (ga M_209 53) (gi M_209 40).toNatClampNeg (-9 : Int32))) → (∀ M_213 : Mm, M_213 = (si M_211 40 ((gi M_211 40) + (1 : Int32))) → (∀ M_215 : Mm, M_215 = (si M_213 41 ((gi M_213 41) + (1 : Int32))) → (Q (((100 : Int32) * (r_123 + (1 : Int32))) + (1 : Int32)) M_215)))))))))))))) ∧ (¬ (ga M_199 38 r_6.toNatClampNeg) ≤ r_199 → (vp_in (gi M_199 40) 40 ∧ (∀ M_216 : Mm, M_216 = (sa M_199 49 (upd (ga M_199 49) (gi M_199 40).toNatClampNeg r_6)) → (vp_in (gi M_216 40) 40 ∧ (∀ M_219 : Mm, M_219 = (sa M_216 50 (upd (ga M_216 50) (gi M_216 40).toNatClampNeg (1 : Int32))) → (vp_in (gi M_219 40) 40 ∧ (∀ M_221 : Mm, M_221 = (sa M_219 51 (upd (ga M_219 51) (gi M_219 40).toNatClampNeg (0 : Int32))) → (vp_in (gi M_221 40) 40 ∧ (∀ M_223 : Mm, M_223 = (sa M_221 52 (upd (ga M_221 52) (gi M_221 40).toNatClampNeg (gi M_221 41))) → (vp_in (gi M_223 40) 40 ∧ (∀ M_225 : Mm, M_225 = (sa M_223 53 (upd (ga M_223 53) (gi M_223 40).toNatClampNeg (-9 : Int32))) → (∀ M_227 : Mm, M_227 = (si M_225 40 ((gi M_225 40) + (1 : Int32))) → (∀ M_229 : Mm, M_229 = (si M_227 41 ((gi M_227 41) + (1 : Int32))) → (Q (((100 : Int32) * (r_123 + (1 : Int32))) + (2 : Int32)) M_229))))))))))))))))) M_195)))))))))))) ∧ (¬ (gi m66 40) ≤ x5_66 → (vp_in x5_66 40 ∧ (vp_in x5_66 40 ∧ (((ga m66 50 x5_66.toNatClampNeg) = (1 : Int32) → (vp_in x5_66 40 ∧ (∀ M_235 : Mm, M_235 = (sa m66 51 (upd (ga m66 51) x5_66.toNatClampNeg ((ga m66 51 x5_66.toNatClampNeg) + (1 : Int32)))) → (J_66 (x5_66 + 1) M_235)))) ∧ (¬ (ga m66 50 x5_66.toNatClampNeg) = (1 : Int32) → (vp_in x5_66 40 ∧ (∀ M_233 : Mm, M_233 = (sa m66 51 (upd (ga m66 51) x5_66.toNatClampNeg ((ga m66 51 x5_66.toNatClampNeg) + (0 : Int32)))) → (J_66 (x5_66 + 1) M_233)))))))))
def lX7_minute_66a (a1 : Int32) (r_6 : Int32) (r_123 : Int32) (Q : Int32 → Mm → Prop) (x5_66 : Int32) (m66 : Mm) : Prop := ∀ I : Int32 → Mm → Prop, (∀ J : Int32 → Mm → Prop, (∀ (x5_66 : Int32) (m : Mm), J x5_66 m → I x5_66 m) → ∀ (x5_66 : Int32) (m : Mm), bX7_minute_66a a1 r_6 r_123 Q J x5_66 m → I x5_66 m) → I x5_66 m66
theorem lX7_minute_66a_mk (a1 : Int32) (r_6 : Int32) (r_123 : Int32) (Q : Int32 → Mm → Prop) (x5_66 : Int32) (m66 : Mm) (h : bX7_minute_66a a1 r_6 r_123 Q (lX7_minute_66a a1 r_6 r_123 Q) x5_66 m66) : lX7_minute_66a a1 r_6 r_123 Q x5_66 m66 := fun I hI => hI (lX7_minute_66a a1 r_6 r_123 Q) (fun _ _ q => q I hI) _ _ h
def wX7_minute (a1 : Int32) (a2 : Int32) (Q : Int32 → Mm → Prop) (M : Mm) : Prop := (wX7_within a1 (0 : Int32) (11 : Int32) (fun r_1 M_1 => ((r_1 = 0 → (Q (-2 : Int32) M_1)) ∧ (¬ r_1 = 0 → (wX7_within a2 (0 : Int32) (11 : Int32) (fun r_3 M_3 => ((r_3 = 0 → (Q (-2 : Int32) M_3)) ∧ (¬ r_3 = 0 → (((gi M_3 28) = 0 → (Q (-3 : Int32) M_3)) ∧ (¬ (gi M_3 28) = 0 → (wX7_sortBy a2 (fun r_6 M_6 => ((r_6 = (-9 : Int32) → (wX7_nextServed (fun r_8 M_8 => (lX7_minute_66 a1 r_6 r_8 Q (0 : Int32) M_8)) M_6)) ∧ (¬ r_6 = (-9 : Int32) → (((gi M_6 40) = (40 : Int32) → (Q (-4 : Int32) M_6)) ∧ (¬ (gi M_6 40) = (40 : Int32) → (wX7_nextServed (fun r_123 M_123 => (lX7_minute_66a a1 r_6 r_123 Q (0 : Int32) M_123)) M_6)))))) M_3)))))) M_1)))) M)
set_option maxHeartbeats 4000000 in
set_option maxRecDepth 100000 in
theorem ctX7_minute (l : Launch) (D : va_G) (cI cJ : ClassId) (ad : Nat → Nat) (had : inj54 ad) (a1 : Int32) (a2 : Int32) (Q : Int32 → Mm → Prop) (M : Mm) (hF : wX7_minute a1 a2 Q M) : Met l yX7_minute wsX7_minute ({ frames := 1, cells := 0, slots := 0, locals := 23 } : Room) (PcW D cI cJ ad M [.ref (ad 32), .int a1, .int a2]) (QiW D cI cJ ad Q) 0 0 (Fr ad) := by
  refine entW (y := yX7_minute) (ret := some .int) (maxL := 7) (plainFor_of_name (by decide)) rfl (Nat.le_of_ble_eq_true rfl) ?_
  intro p e s m args below meth c ls S hK hr hlocks hP hS hl
  have hx := S.1
  have hb := S.2.1
  have hown := S.2.2.2.1
  have hts := S.2.2.2.2
  have i7 : ∀ w ∈ wsX70, w ∈ wsX7_minute := by decide +kernel
  have k142 := hts (.fieldLink RX7 142 "RopeLineModel" "isPlace" "Z") (by decide +kernel)
  have k164 := hts (.fieldLink RX7 164 "RopeLineModel" "comers" "I") (by decide +kernel)
  have k167 := hts (.fieldLink RX7 167 "RopeLineModel" "minutes" "I") (by decide +kernel)
  have k25 := hts (.fieldLink RX7 25 "RopeLineModel" "bars" "[I") (by decide +kernel)
  have k59 := hts (.fieldLink RX7 59 "RopeLineModel" "comerSort" "[I") (by decide +kernel)
  have k62 := hts (.fieldLink RX7 62 "RopeLineModel" "comerKind" "[I") (by decide +kernel)
  have k65 := hts (.fieldLink RX7 65 "RopeLineModel" "waited" "[I") (by decide +kernel)
  have k68 := hts (.fieldLink RX7 68 "RopeLineModel" "came" "[I") (by decide +kernel)
  have k71 := hts (.fieldLink RX7 71 "RopeLineModel" "gone" "[I") (by decide +kernel)
  have k146 := hts (.fieldLink RX7 146 "RopeLineModel" "served" "I") (by decide +kernel)
  have hl : lv_has ls 7 [(0, .ref (ad 32)), (1, .int a1), (2, .int a2)] := hl
  unfold wX7_minute at hF
  refine lv_iload_n hx hb dX7_minute_0 rfl (lv_at hl 1 rfl) ?_
  refine lv_iconst (v := 0) hx hb dX7_minute_1 (by decide) ?_
  refine lv_bipush (v := 11) hx hb dX7_minute_2 (by decide) ?_
  refine goZ (rS (rest := []) S hK hP (ctX7_within l D cI cJ ad had a1 (0 : Int32) (11 : Int32) _ _ hF) (va_cwS 3 hts gX7_minute_X7_within rfl rfl rfl hdS_X7_within ⟨Nat.le_of_ble_eq_true rfl, Nat.le_of_ble_eq_true rfl⟩) rfl hl.1 rfl (Nat.le_of_ble_eq_true rfl) dX7_minute_4 ⟨Nat.zero_le _, Nat.zero_le _⟩) hS (fun _ h => h) (fun r_1 M_1 H locs hP hS hz_r_1 hF => ?_)
  refine lv_if_eq (tgt := 20) hx hb dX7_minute_7 (by decide) (fun c_2 => ?_) (fun c_2 => ?_)
  · have hF := hF.1 c_2
    refine lv_bipush (v := -2) hx hb dX7_minute_20 (by decide) ?_
    exact retI S hr hlocks hP hS hF dX7_minute_22
  · have hF := hF.2 c_2
    refine lv_iload_n hx hb dX7_minute_10 rfl (lv_at hl 2 rfl) ?_
    refine lv_iconst (v := 0) hx hb dX7_minute_11 (by decide) ?_
    refine lv_bipush (v := 11) hx hb dX7_minute_12 (by decide) ?_
    refine goZ (rS (rest := []) S hK hP (ctX7_within l D cI cJ ad had a2 (0 : Int32) (11 : Int32) _ _ hF) (va_cwS 3 hts gX7_minute_X7_within rfl rfl rfl hdS_X7_within ⟨Nat.le_of_ble_eq_true rfl, Nat.le_of_ble_eq_true rfl⟩) rfl hl.1 rfl (Nat.le_of_ble_eq_true rfl) dX7_minute_14 ⟨Nat.zero_le _, Nat.zero_le _⟩) hS (fun _ h => h) (fun r_3 M_3 H locs hP hS hz_r_3 hF => ?_)
    refine lv_if_ne (tgt := 23) hx hb dX7_minute_17 (by decide) (fun c_4 => ?_) (fun c_4 => ?_)
    · have hF := hF.2 c_4
      refine lv_aload_n hx hb dX7_minute_23 rfl (lv_at hl 0 rfl) ?_
      refine gF S hK hP i7 e_M rfl 7 (by decide) k142 f_M_isPlace dX7_minute_24 ?_
      refine lv_if_ne (tgt := 33) hx hb dX7_minute_27 (by decide) (fun c_5 => ?_) (fun c_5 => ?_)
      · have hF := hF.2 c_5
        refine lv_aload_n hx hb dX7_minute_33 rfl (lv_at hl 0 rfl) ?_
        refine lv_iload_n hx hb dX7_minute_34 rfl (lv_at hl 2 rfl) ?_
        refine goI (rV (rest := []) S hK hP (ctX7_sortBy l D cI cJ ad had a2 _ _ hF) (cwV 1 hts gX7_minute_X7_sortBy rfl rfl rfl hdV_X7_sortBy ⟨Nat.le_of_ble_eq_true rfl, Nat.le_of_ble_eq_true rfl⟩) e_M rfl rfl hl.1 rfl (Nat.le_of_ble_eq_true rfl) dX7_minute_35 ⟨Nat.zero_le _, Nat.zero_le _⟩) hS (fun _ h => h) (fun r_6 M_6 H locs hP hS hF => ?_)
        refine lv_istore_n (lv' := [(3, .int r_6), (0, .ref (ad 32)), (1, .int a1), (2, .int a2)]) hx hb dX7_minute_38 rfl hl (by decide) rfl (fun ls hl => ?_)
        refine lv_iload_n hx hb dX7_minute_39 rfl (lv_at hl 0 rfl) ?_
        refine lv_bipush (v := -9) hx hb dX7_minute_40 (by decide) ?_
        refine lv_icmp_eq (tgt := 57) hx hb dX7_minute_42 (by decide) (fun c_7 => ?_) (fun c_7 => ?_)
        · have hF := hF.1 c_7
          refine lv_aload_n hx hb dX7_minute_57 rfl (lv_at hl 1 rfl) ?_
          refine goI (rV (rest := []) S hK hP (ctX7_nextServed l D cI cJ ad had  _ _ hF) (cwV 0 hts gX7_minute_X7_nextServed rfl rfl rfl hdV_X7_nextServed ⟨Nat.le_of_ble_eq_true rfl, Nat.le_of_ble_eq_true rfl⟩) e_M rfl rfl hl.1 rfl (Nat.le_of_ble_eq_true rfl) dX7_minute_58 ⟨Nat.zero_le _, Nat.zero_le _⟩) hS (fun _ h => h) (fun r_8 M_8 H locs hP hS hF => ?_)
          refine lv_istore (lv' := [(4, .int r_8), (3, .int r_6), (0, .ref (ad 32)), (1, .int a1), (2, .int a2)]) hx hb dX7_minute_61 hl (by decide) rfl (fun ls hl => ?_)
          refine lv_iconst (v := 0) hx hb dX7_minute_63 (by decide) ?_
          refine lv_istore (lv' := [(5, .int (0 : Int32)), (4, .int r_8), (3, .int r_6), (0, .ref (ad 32)), (1, .int a1), (2, .int a2)]) hx hb dX7_minute_64 hl (by decide) rfl (fun ls hl => ?_)
          have key_66 : ∀ (x5_66 : Int32) (m66 : Mm), (lX7_minute_66 a1 r_6 r_8 Q x5_66 m66) → Wc p l e ({ frames := 1, cells := 0, slots := 0, locals := 23 } : Room) s m args below meth c D cI cJ ad (MQ below (QiW D cI cJ ad Q) args s 0 0 (Fr ad)) 7 66 [(0, .ref (ad 32)), (1, .int a1), (3, .int r_6), (4, .int r_8), (5, .int x5_66)] m66 := by
            intro x5_66 m66 hL
            refine hL (fun x5_66 m66 => Wc p l e ({ frames := 1, cells := 0, slots := 0, locals := 23 } : Room) s m args below meth c D cI cJ ad (MQ below (QiW D cI cJ ad Q) args s 0 0 (Fr ad)) 7 66 [(0, .ref (ad 32)), (1, .int a1), (3, .int r_6), (4, .int r_8), (5, .int x5_66)] m66) ?_
            intro J_66 hJ_66 x5_66 m66 hF H locs ls hP hS hl
            unfold bX7_minute_66 at hF
            refine lv_iload hx hb dX7_minute_66 (lv_at hl 4 rfl) ?_
            refine lv_aload_n hx hb dX7_minute_68 rfl (lv_at hl 0 rfl) ?_
            refine gF S hK hP i7 e_M rfl 32 (by decide) k164 f_M_comers dX7_minute_69 ?_
            refine lv_icmp_ge (tgt := 107) hx hb dX7_minute_72 (by decide) (fun c_9 => ?_) (fun c_9 => ?_)
            · have hF := hF.1 c_9
              refine lv_iconst (v := 0) hx hb dX7_minute_107 (by decide) ?_
              refine lv_istore (lv' := [(5, .int (0 : Int32)), (0, .ref (ad 32)), (1, .int a1), (3, .int r_6), (4, .int r_8)]) hx hb dX7_minute_108 hl (by decide) rfl (fun ls hl => ?_)
              refine lv_iload hx hb dX7_minute_110 (lv_at hl 4 rfl) ?_
              refine lv_bipush (v := -9) hx hb dX7_minute_112 (by decide) ?_
              refine lv_icmp_eq (tgt := 153) hx hb dX7_minute_114 (by decide) (fun c_10 => ?_) (fun c_10 => ?_)
              · have hF := hF.1 c_10
                refine lv_iload_n hx hb dX7_minute_153 rfl (lv_at hl 3 rfl) ?_
                refine lv_bipush (v := -9) hx hb dX7_minute_154 (by decide) ?_
                refine lv_icmp_eq (tgt := 267) hx hb dX7_minute_156 (by decide) (fun c_11 => ?_) (fun c_11 => ?_)
                · have hF := hF.1 c_11
                  refine lv_aload_n hx hb dX7_minute_267 rfl (lv_at hl 1 rfl) ?_
                  refine lv_dup hx hb dX7_minute_268 rfl ?_
                  refine gF S hK hP i7 e_M rfl 33 (by decide) k167 f_M_minutes dX7_minute_269 ?_
                  refine lv_iconst (v := 1) hx hb dX7_minute_272 (by decide) ?_
                  refine lv_iadd hx hb dX7_minute_273 ?_
                  refine pF S hK had hP hS i7 tyX7_ok nmX7 e_M rfl 33 (by decide) k167 rfl rfl rfl (Nat.lt_of_lt_of_eq (by decide) len_M.symm) s_M_minutes dX7_minute_274 (fun M_12 H locs eM_12 hP hS => ?_)
                  have hF := hF M_12 eM_12
                  refine lv_iload hx hb dX7_minute_277 (lv_at hl 0 rfl) ?_
                  exact retI S hr hlocks hP hS hF dX7_minute_279
                · have hF := hF.2 c_11
                  refine lv_aload_n hx hb dX7_minute_159 rfl (lv_at hl 1 rfl) ?_
                  refine goI (rV (rest := []) S hK hP (ctX7_standing l D cI cJ ad had  _ _ hF) (cwV 0 hts gX7_minute_X7_standing rfl rfl rfl hdV_X7_standing ⟨Nat.le_of_ble_eq_true rfl, Nat.le_of_ble_eq_true rfl⟩) e_M rfl rfl hl.1 rfl (Nat.le_of_ble_eq_true rfl) dX7_minute_160 ⟨Nat.zero_le _, Nat.zero_le _⟩) hS (fun _ h => h) (fun r_13 M_13 H locs hP hS hF => ?_)
                  refine lv_aload_n hx hb dX7_minute_163 rfl (lv_at hl 1 rfl) ?_
                  refine gF S hK hP i7 e_M rfl 13 (by decide) k25 f_M_bars dX7_minute_164 ?_
                  refine lv_iload_n hx hb dX7_minute_167 rfl (lv_at hl 3 rfl) ?_
                  obtain ⟨hb_14, hF⟩ := hF
                  refine ldA S hK hP (k := 38) rfl hb_14 dX7_minute_168 ?_
                  refine lv_icmp_ge (tgt := 176) hx hb dX7_minute_169 (by decide) (fun c_15 => ?_) (fun c_15 => ?_)
                  · have hF := hF.1 c_15
                    refine lv_iconst (v := 0) hx hb dX7_minute_176 (by decide) ?_
                    refine lv_istore (lv' := [(6, .int (0 : Int32)), (5, .int (0 : Int32)), (0, .ref (ad 32)), (1, .int a1), (3, .int r_6), (4, .int r_8)]) hx hb dX7_minute_177 hl (by decide) rfl (fun ls hl => ?_)
                    refine lv_aload_n hx hb dX7_minute_179 rfl (lv_at hl 2 rfl) ?_
                    refine gF S hK hP i7 e_M rfl 35 (by decide) k59 f_M_comerSort dX7_minute_180 ?_
                    refine lv_aload_n hx hb dX7_minute_183 rfl (lv_at hl 2 rfl) ?_
                    refine gF S hK hP i7 e_M rfl 32 (by decide) k164 f_M_comers dX7_minute_184 ?_
                    refine lv_iload_n hx hb dX7_minute_187 rfl (lv_at hl 4 rfl) ?_
                    obtain ⟨hb_17, hF⟩ := hF
                    refine stA S hK had hP hS (k := 49) rfl hb_17 dX7_minute_188 (fun M_16 H locs eM_16 hP hS => ?_)
                    have hF := hF M_16 eM_16
                    refine lv_aload_n hx hb dX7_minute_189 rfl (lv_at hl 2 rfl) ?_
                    refine gF S hK hP i7 e_M rfl 36 (by decide) k62 f_M_comerKind dX7_minute_190 ?_
                    refine lv_aload_n hx hb dX7_minute_193 rfl (lv_at hl 2 rfl) ?_
                    refine gF S hK hP i7 e_M rfl 32 (by decide) k164 f_M_comers dX7_minute_194 ?_
                    refine lv_iload hx hb dX7_minute_197 (lv_at hl 0 rfl) ?_
                    refine lv_if_eq (tgt := 206) hx hb dX7_minute_199 (by decide) (fun _ => ?_) (fun c_18 => absurd (by decide) c_18)
                    refine lv_iconst (v := 0) hx hb dX7_minute_206 (by decide) ?_
                    obtain ⟨hb_20, hF⟩ := hF
                    refine stA S hK had hP hS (k := 50) rfl hb_20 dX7_minute_207 (fun M_19 H locs eM_19 hP hS => ?_)
                    have hF := hF M_19 eM_19
                    refine lv_aload_n hx hb dX7_minute_208 rfl (lv_at hl 2 rfl) ?_
                    refine gF S hK hP i7 e_M rfl 37 (by decide) k65 f_M_waited dX7_minute_209 ?_
                    refine lv_aload_n hx hb dX7_minute_212 rfl (lv_at hl 2 rfl) ?_
                    refine gF S hK hP i7 e_M rfl 32 (by decide) k164 f_M_comers dX7_minute_213 ?_
                    refine lv_iconst (v := 0) hx hb dX7_minute_216 (by decide) ?_
                    obtain ⟨hb_22, hF⟩ := hF
                    refine stA S hK had hP hS (k := 51) rfl hb_22 dX7_minute_217 (fun M_21 H locs eM_21 hP hS => ?_)
                    have hF := hF M_21 eM_21
                    refine lv_aload_n hx hb dX7_minute_218 rfl (lv_at hl 2 rfl) ?_
                    refine gF S hK hP i7 e_M rfl 38 (by decide) k68 f_M_came dX7_minute_219 ?_
                    refine lv_aload_n hx hb dX7_minute_222 rfl (lv_at hl 2 rfl) ?_
                    refine gF S hK hP i7 e_M rfl 32 (by decide) k164 f_M_comers dX7_minute_223 ?_
                    refine lv_aload_n hx hb dX7_minute_226 rfl (lv_at hl 2 rfl) ?_
                    refine gF S hK hP i7 e_M rfl 33 (by decide) k167 f_M_minutes dX7_minute_227 ?_
                    obtain ⟨hb_24, hF⟩ := hF
                    refine stA S hK had hP hS (k := 52) rfl hb_24 dX7_minute_230 (fun M_23 H locs eM_23 hP hS => ?_)
                    have hF := hF M_23 eM_23
                    refine lv_aload_n hx hb dX7_minute_231 rfl (lv_at hl 2 rfl) ?_
                    refine gF S hK hP i7 e_M rfl 39 (by decide) k71 f_M_gone dX7_minute_232 ?_
                    refine lv_aload_n hx hb dX7_minute_235 rfl (lv_at hl 2 rfl) ?_
                    refine gF S hK hP i7 e_M rfl 32 (by decide) k164 f_M_comers dX7_minute_236 ?_
                    refine lv_bipush (v := -9) hx hb dX7_minute_239 (by decide) ?_
                    obtain ⟨hb_26, hF⟩ := hF
                    refine stA S hK had hP hS (k := 53) rfl hb_26 dX7_minute_241 (fun M_25 H locs eM_25 hP hS => ?_)
                    have hF := hF M_25 eM_25
                    refine lv_aload_n hx hb dX7_minute_242 rfl (lv_at hl 2 rfl) ?_
                    refine lv_dup hx hb dX7_minute_243 rfl ?_
                    refine gF S hK hP i7 e_M rfl 32 (by decide) k164 f_M_comers dX7_minute_244 ?_
                    refine lv_iconst (v := 1) hx hb dX7_minute_247 (by decide) ?_
                    refine lv_iadd hx hb dX7_minute_248 ?_
                    refine pF S hK had hP hS i7 tyX7_ok nmX7 e_M rfl 32 (by decide) k164 rfl rfl rfl (Nat.lt_of_lt_of_eq (by decide) len_M.symm) s_M_comers dX7_minute_249 (fun M_27 H locs eM_27 hP hS => ?_)
                    have hF := hF M_27 eM_27
                    refine lv_iload hx hb dX7_minute_252 (lv_at hl 1 rfl) ?_
                    refine lv_iload hx hb dX7_minute_254 (lv_at hl 0 rfl) ?_
                    refine lv_if_eq (tgt := 263) hx hb dX7_minute_256 (by decide) (fun _ => ?_) (fun c_28 => absurd (by decide) c_28)
                    refine lv_iconst (v := 1) hx hb dX7_minute_263 (by decide) ?_
                    refine lv_iadd hx hb dX7_minute_264 ?_
                    refine lv_istore (lv' := [(5, .int ((0 : Int32) + (1 : Int32))), (6, .int (0 : Int32)), (0, .ref (ad 32)), (1, .int a1), (3, .int r_6), (4, .int r_8)]) hx hb dX7_minute_265 hl (by decide) rfl (fun ls hl => ?_)
                    refine lv_aload_n hx hb dX7_minute_267 rfl (lv_at hl 2 rfl) ?_
                    refine lv_dup hx hb dX7_minute_268 rfl ?_
                    refine gF S hK hP i7 e_M rfl 33 (by decide) k167 f_M_minutes dX7_minute_269 ?_
                    refine lv_iconst (v := 1) hx hb dX7_minute_272 (by decide) ?_
                    refine lv_iadd hx hb dX7_minute_273 ?_
                    refine pF S hK had hP hS i7 tyX7_ok nmX7 e_M rfl 33 (by decide) k167 rfl rfl rfl (Nat.lt_of_lt_of_eq (by decide) len_M.symm) s_M_minutes dX7_minute_274 (fun M_29 H locs eM_29 hP hS => ?_)
                    have hF := hF M_29 eM_29
                    refine lv_iload hx hb dX7_minute_277 (lv_at hl 0 rfl) ?_
                    exact retI S hr hlocks hP hS hF dX7_minute_279
                  · have hF := hF.2 c_15
                    refine lv_iconst (v := 1) hx hb dX7_minute_172 (by decide) ?_
                    refine lv_goto (tgt := 177) hx hb dX7_minute_173 (by decide) ?_
                    refine lv_istore (lv' := [(6, .int (1 : Int32)), (5, .int (0 : Int32)), (0, .ref (ad 32)), (1, .int a1), (3, .int r_6), (4, .int r_8)]) hx hb dX7_minute_177 hl (by decide) rfl (fun ls hl => ?_)
                    refine lv_aload_n hx hb dX7_minute_179 rfl (lv_at hl 2 rfl) ?_
                    refine gF S hK hP i7 e_M rfl 35 (by decide) k59 f_M_comerSort dX7_minute_180 ?_
                    refine lv_aload_n hx hb dX7_minute_183 rfl (lv_at hl 2 rfl) ?_
                    refine gF S hK hP i7 e_M rfl 32 (by decide) k164 f_M_comers dX7_minute_184 ?_
                    refine lv_iload_n hx hb dX7_minute_187 rfl (lv_at hl 4 rfl) ?_
                    obtain ⟨hb_31, hF⟩ := hF
                    refine stA S hK had hP hS (k := 49) rfl hb_31 dX7_minute_188 (fun M_30 H locs eM_30 hP hS => ?_)
                    have hF := hF M_30 eM_30
                    refine lv_aload_n hx hb dX7_minute_189 rfl (lv_at hl 2 rfl) ?_
                    refine gF S hK hP i7 e_M rfl 36 (by decide) k62 f_M_comerKind dX7_minute_190 ?_
                    refine lv_aload_n hx hb dX7_minute_193 rfl (lv_at hl 2 rfl) ?_
                    refine gF S hK hP i7 e_M rfl 32 (by decide) k164 f_M_comers dX7_minute_194 ?_
                    refine lv_iload hx hb dX7_minute_197 (lv_at hl 0 rfl) ?_
                    refine lv_if_eq (tgt := 206) hx hb dX7_minute_199 (by decide) (fun c_32 => absurd c_32 (by decide)) (fun _ => ?_)
                    refine lv_iconst (v := 1) hx hb dX7_minute_202 (by decide) ?_
                    refine lv_goto (tgt := 207) hx hb dX7_minute_203 (by decide) ?_
                    obtain ⟨hb_34, hF⟩ := hF
                    refine stA S hK had hP hS (k := 50) rfl hb_34 dX7_minute_207 (fun M_33 H locs eM_33 hP hS => ?_)
                    have hF := hF M_33 eM_33
                    refine lv_aload_n hx hb dX7_minute_208 rfl (lv_at hl 2 rfl) ?_
                    refine gF S hK hP i7 e_M rfl 37 (by decide) k65 f_M_waited dX7_minute_209 ?_
                    refine lv_aload_n hx hb dX7_minute_212 rfl (lv_at hl 2 rfl) ?_
                    refine gF S hK hP i7 e_M rfl 32 (by decide) k164 f_M_comers dX7_minute_213 ?_
                    refine lv_iconst (v := 0) hx hb dX7_minute_216 (by decide) ?_
                    obtain ⟨hb_36, hF⟩ := hF
                    refine stA S hK had hP hS (k := 51) rfl hb_36 dX7_minute_217 (fun M_35 H locs eM_35 hP hS => ?_)
                    have hF := hF M_35 eM_35
                    refine lv_aload_n hx hb dX7_minute_218 rfl (lv_at hl 2 rfl) ?_
                    refine gF S hK hP i7 e_M rfl 38 (by decide) k68 f_M_came dX7_minute_219 ?_
                    refine lv_aload_n hx hb dX7_minute_222 rfl (lv_at hl 2 rfl) ?_
                    refine gF S hK hP i7 e_M rfl 32 (by decide) k164 f_M_comers dX7_minute_223 ?_
                    refine lv_aload_n hx hb dX7_minute_226 rfl (lv_at hl 2 rfl) ?_
                    refine gF S hK hP i7 e_M rfl 33 (by decide) k167 f_M_minutes dX7_minute_227 ?_
                    obtain ⟨hb_38, hF⟩ := hF
                    refine stA S hK had hP hS (k := 52) rfl hb_38 dX7_minute_230 (fun M_37 H locs eM_37 hP hS => ?_)
                    have hF := hF M_37 eM_37
                    refine lv_aload_n hx hb dX7_minute_231 rfl (lv_at hl 2 rfl) ?_
                    refine gF S hK hP i7 e_M rfl 39 (by decide) k71 f_M_gone dX7_minute_232 ?_
                    refine lv_aload_n hx hb dX7_minute_235 rfl (lv_at hl 2 rfl) ?_
                    refine gF S hK hP i7 e_M rfl 32 (by decide) k164 f_M_comers dX7_minute_236 ?_
                    refine lv_bipush (v := -9) hx hb dX7_minute_239 (by decide) ?_
                    obtain ⟨hb_40, hF⟩ := hF
                    refine stA S hK had hP hS (k := 53) rfl hb_40 dX7_minute_241 (fun M_39 H locs eM_39 hP hS => ?_)
                    have hF := hF M_39 eM_39
                    refine lv_aload_n hx hb dX7_minute_242 rfl (lv_at hl 2 rfl) ?_
                    refine lv_dup hx hb dX7_minute_243 rfl ?_
                    refine gF S hK hP i7 e_M rfl 32 (by decide) k164 f_M_comers dX7_minute_244 ?_
                    refine lv_iconst (v := 1) hx hb dX7_minute_247 (by decide) ?_
                    refine lv_iadd hx hb dX7_minute_248 ?_
                    refine pF S hK had hP hS i7 tyX7_ok nmX7 e_M rfl 32 (by decide) k164 rfl rfl rfl (Nat.lt_of_lt_of_eq (by decide) len_M.symm) s_M_comers dX7_minute_249 (fun M_41 H locs eM_41 hP hS => ?_)
                    have hF := hF M_41 eM_41
                    refine lv_iload hx hb dX7_minute_252 (lv_at hl 1 rfl) ?_
                    refine lv_iload hx hb dX7_minute_254 (lv_at hl 0 rfl) ?_
                    refine lv_if_eq (tgt := 263) hx hb dX7_minute_256 (by decide) (fun c_42 => absurd c_42 (by decide)) (fun _ => ?_)
                    refine lv_iconst (v := 2) hx hb dX7_minute_259 (by decide) ?_
                    refine lv_goto (tgt := 264) hx hb dX7_minute_260 (by decide) ?_
                    refine lv_iadd hx hb dX7_minute_264 ?_
                    refine lv_istore (lv' := [(5, .int ((0 : Int32) + (2 : Int32))), (6, .int (1 : Int32)), (0, .ref (ad 32)), (1, .int a1), (3, .int r_6), (4, .int r_8)]) hx hb dX7_minute_265 hl (by decide) rfl (fun ls hl => ?_)
                    refine lv_aload_n hx hb dX7_minute_267 rfl (lv_at hl 2 rfl) ?_
                    refine lv_dup hx hb dX7_minute_268 rfl ?_
                    refine gF S hK hP i7 e_M rfl 33 (by decide) k167 f_M_minutes dX7_minute_269 ?_
                    refine lv_iconst (v := 1) hx hb dX7_minute_272 (by decide) ?_
                    refine lv_iadd hx hb dX7_minute_273 ?_
                    refine pF S hK had hP hS i7 tyX7_ok nmX7 e_M rfl 33 (by decide) k167 rfl rfl rfl (Nat.lt_of_lt_of_eq (by decide) len_M.symm) s_M_minutes dX7_minute_274 (fun M_43 H locs eM_43 hP hS => ?_)
                    have hF := hF M_43 eM_43
                    refine lv_iload hx hb dX7_minute_277 (lv_at hl 0 rfl) ?_
                    exact retI S hr hlocks hP hS hF dX7_minute_279
              · have hF := hF.2 c_10
                refine lv_iload_n hx hb dX7_minute_117 rfl (lv_at hl 2 rfl) ?_
                refine lv_aload_n hx hb dX7_minute_118 rfl (lv_at hl 1 rfl) ?_
                refine gF S hK hP i7 e_M rfl 8 (by decide) k146 f_M_served dX7_minute_119 ?_
                refine lv_icmp_ge (tgt := 153) hx hb dX7_minute_122 (by decide) (fun c_44 => ?_) (fun c_44 => ?_)
                · have hF := hF.1 c_44
                  refine lv_iload_n hx hb dX7_minute_153 rfl (lv_at hl 3 rfl) ?_
                  refine lv_bipush (v := -9) hx hb dX7_minute_154 (by decide) ?_
                  refine lv_icmp_eq (tgt := 267) hx hb dX7_minute_156 (by decide) (fun c_45 => ?_) (fun c_45 => ?_)
                  · have hF := hF.1 c_45
                    refine lv_aload_n hx hb dX7_minute_267 rfl (lv_at hl 1 rfl) ?_
                    refine lv_dup hx hb dX7_minute_268 rfl ?_
                    refine gF S hK hP i7 e_M rfl 33 (by decide) k167 f_M_minutes dX7_minute_269 ?_
                    refine lv_iconst (v := 1) hx hb dX7_minute_272 (by decide) ?_
                    refine lv_iadd hx hb dX7_minute_273 ?_
                    refine pF S hK had hP hS i7 tyX7_ok nmX7 e_M rfl 33 (by decide) k167 rfl rfl rfl (Nat.lt_of_lt_of_eq (by decide) len_M.symm) s_M_minutes dX7_minute_274 (fun M_46 H locs eM_46 hP hS => ?_)
                    have hF := hF M_46 eM_46
                    refine lv_iload hx hb dX7_minute_277 (lv_at hl 0 rfl) ?_
                    exact retI S hr hlocks hP hS hF dX7_minute_279
                  · have hF := hF.2 c_45
                    refine lv_aload_n hx hb dX7_minute_159 rfl (lv_at hl 1 rfl) ?_
                    refine goI (rV (rest := []) S hK hP (ctX7_standing l D cI cJ ad had  _ _ hF) (cwV 0 hts gX7_minute_X7_standing rfl rfl rfl hdV_X7_standing ⟨Nat.le_of_ble_eq_true rfl, Nat.le_of_ble_eq_true rfl⟩) e_M rfl rfl hl.1 rfl (Nat.le_of_ble_eq_true rfl) dX7_minute_160 ⟨Nat.zero_le _, Nat.zero_le _⟩) hS (fun _ h => h) (fun r_47 M_47 H locs hP hS hF => ?_)
                    refine lv_aload_n hx hb dX7_minute_163 rfl (lv_at hl 1 rfl) ?_
                    refine gF S hK hP i7 e_M rfl 13 (by decide) k25 f_M_bars dX7_minute_164 ?_
                    refine lv_iload_n hx hb dX7_minute_167 rfl (lv_at hl 3 rfl) ?_
                    obtain ⟨hb_48, hF⟩ := hF
                    refine ldA S hK hP (k := 38) rfl hb_48 dX7_minute_168 ?_
                    refine lv_icmp_ge (tgt := 176) hx hb dX7_minute_169 (by decide) (fun c_49 => ?_) (fun c_49 => ?_)
                    · have hF := hF.1 c_49
                      refine lv_iconst (v := 0) hx hb dX7_minute_176 (by decide) ?_
                      refine lv_istore (lv' := [(6, .int (0 : Int32)), (5, .int (0 : Int32)), (0, .ref (ad 32)), (1, .int a1), (3, .int r_6), (4, .int r_8)]) hx hb dX7_minute_177 hl (by decide) rfl (fun ls hl => ?_)
                      refine lv_aload_n hx hb dX7_minute_179 rfl (lv_at hl 2 rfl) ?_
                      refine gF S hK hP i7 e_M rfl 35 (by decide) k59 f_M_comerSort dX7_minute_180 ?_
                      refine lv_aload_n hx hb dX7_minute_183 rfl (lv_at hl 2 rfl) ?_
                      refine gF S hK hP i7 e_M rfl 32 (by decide) k164 f_M_comers dX7_minute_184 ?_
                      refine lv_iload_n hx hb dX7_minute_187 rfl (lv_at hl 4 rfl) ?_
                      obtain ⟨hb_51, hF⟩ := hF
                      refine stA S hK had hP hS (k := 49) rfl hb_51 dX7_minute_188 (fun M_50 H locs eM_50 hP hS => ?_)
                      have hF := hF M_50 eM_50
                      refine lv_aload_n hx hb dX7_minute_189 rfl (lv_at hl 2 rfl) ?_
                      refine gF S hK hP i7 e_M rfl 36 (by decide) k62 f_M_comerKind dX7_minute_190 ?_
                      refine lv_aload_n hx hb dX7_minute_193 rfl (lv_at hl 2 rfl) ?_
                      refine gF S hK hP i7 e_M rfl 32 (by decide) k164 f_M_comers dX7_minute_194 ?_
                      refine lv_iload hx hb dX7_minute_197 (lv_at hl 0 rfl) ?_
                      refine lv_if_eq (tgt := 206) hx hb dX7_minute_199 (by decide) (fun _ => ?_) (fun c_52 => absurd (by decide) c_52)
                      refine lv_iconst (v := 0) hx hb dX7_minute_206 (by decide) ?_
                      obtain ⟨hb_54, hF⟩ := hF
                      refine stA S hK had hP hS (k := 50) rfl hb_54 dX7_minute_207 (fun M_53 H locs eM_53 hP hS => ?_)
                      have hF := hF M_53 eM_53
                      refine lv_aload_n hx hb dX7_minute_208 rfl (lv_at hl 2 rfl) ?_
                      refine gF S hK hP i7 e_M rfl 37 (by decide) k65 f_M_waited dX7_minute_209 ?_
                      refine lv_aload_n hx hb dX7_minute_212 rfl (lv_at hl 2 rfl) ?_
                      refine gF S hK hP i7 e_M rfl 32 (by decide) k164 f_M_comers dX7_minute_213 ?_
                      refine lv_iconst (v := 0) hx hb dX7_minute_216 (by decide) ?_
                      obtain ⟨hb_56, hF⟩ := hF
                      refine stA S hK had hP hS (k := 51) rfl hb_56 dX7_minute_217 (fun M_55 H locs eM_55 hP hS => ?_)
                      have hF := hF M_55 eM_55
                      refine lv_aload_n hx hb dX7_minute_218 rfl (lv_at hl 2 rfl) ?_
                      refine gF S hK hP i7 e_M rfl 38 (by decide) k68 f_M_came dX7_minute_219 ?_
                      refine lv_aload_n hx hb dX7_minute_222 rfl (lv_at hl 2 rfl) ?_
                      refine gF S hK hP i7 e_M rfl 32 (by decide) k164 f_M_comers dX7_minute_223 ?_
                      refine lv_aload_n hx hb dX7_minute_226 rfl (lv_at hl 2 rfl) ?_
                      refine gF S hK hP i7 e_M rfl 33 (by decide) k167 f_M_minutes dX7_minute_227 ?_
                      obtain ⟨hb_58, hF⟩ := hF
                      refine stA S hK had hP hS (k := 52) rfl hb_58 dX7_minute_230 (fun M_57 H locs eM_57 hP hS => ?_)
                      have hF := hF M_57 eM_57
                      refine lv_aload_n hx hb dX7_minute_231 rfl (lv_at hl 2 rfl) ?_
                      refine gF S hK hP i7 e_M rfl 39 (by decide) k71 f_M_gone dX7_minute_232 ?_
                      refine lv_aload_n hx hb dX7_minute_235 rfl (lv_at hl 2 rfl) ?_
                      refine gF S hK hP i7 e_M rfl 32 (by decide) k164 f_M_comers dX7_minute_236 ?_
                      refine lv_bipush (v := -9) hx hb dX7_minute_239 (by decide) ?_
                      obtain ⟨hb_60, hF⟩ := hF
                      refine stA S hK had hP hS (k := 53) rfl hb_60 dX7_minute_241 (fun M_59 H locs eM_59 hP hS => ?_)
                      have hF := hF M_59 eM_59
                      refine lv_aload_n hx hb dX7_minute_242 rfl (lv_at hl 2 rfl) ?_
                      refine lv_dup hx hb dX7_minute_243 rfl ?_
                      refine gF S hK hP i7 e_M rfl 32 (by decide) k164 f_M_comers dX7_minute_244 ?_
                      refine lv_iconst (v := 1) hx hb dX7_minute_247 (by decide) ?_
                      refine lv_iadd hx hb dX7_minute_248 ?_
                      refine pF S hK had hP hS i7 tyX7_ok nmX7 e_M rfl 32 (by decide) k164 rfl rfl rfl (Nat.lt_of_lt_of_eq (by decide) len_M.symm) s_M_comers dX7_minute_249 (fun M_61 H locs eM_61 hP hS => ?_)
                      have hF := hF M_61 eM_61
                      refine lv_iload hx hb dX7_minute_252 (lv_at hl 1 rfl) ?_
                      refine lv_iload hx hb dX7_minute_254 (lv_at hl 0 rfl) ?_
                      refine lv_if_eq (tgt := 263) hx hb dX7_minute_256 (by decide) (fun _ => ?_) (fun c_62 => absurd (by decide) c_62)
                      refine lv_iconst (v := 1) hx hb dX7_minute_263 (by decide) ?_
                      refine lv_iadd hx hb dX7_minute_264 ?_
                      refine lv_istore (lv' := [(5, .int ((0 : Int32) + (1 : Int32))), (6, .int (0 : Int32)), (0, .ref (ad 32)), (1, .int a1), (3, .int r_6), (4, .int r_8)]) hx hb dX7_minute_265 hl (by decide) rfl (fun ls hl => ?_)
                      refine lv_aload_n hx hb dX7_minute_267 rfl (lv_at hl 2 rfl) ?_
                      refine lv_dup hx hb dX7_minute_268 rfl ?_
                      refine gF S hK hP i7 e_M rfl 33 (by decide) k167 f_M_minutes dX7_minute_269 ?_
                      refine lv_iconst (v := 1) hx hb dX7_minute_272 (by decide) ?_
                      refine lv_iadd hx hb dX7_minute_273 ?_
                      refine pF S hK had hP hS i7 tyX7_ok nmX7 e_M rfl 33 (by decide) k167 rfl rfl rfl (Nat.lt_of_lt_of_eq (by decide) len_M.symm) s_M_minutes dX7_minute_274 (fun M_63 H locs eM_63 hP hS => ?_)
                      have hF := hF M_63 eM_63
                      refine lv_iload hx hb dX7_minute_277 (lv_at hl 0 rfl) ?_
                      exact retI S hr hlocks hP hS hF dX7_minute_279
                    · have hF := hF.2 c_49
                      refine lv_iconst (v := 1) hx hb dX7_minute_172 (by decide) ?_
                      refine lv_goto (tgt := 177) hx hb dX7_minute_173 (by decide) ?_
                      refine lv_istore (lv' := [(6, .int (1 : Int32)), (5, .int (0 : Int32)), (0, .ref (ad 32)), (1, .int a1), (3, .int r_6), (4, .int r_8)]) hx hb dX7_minute_177 hl (by decide) rfl (fun ls hl => ?_)
                      refine lv_aload_n hx hb dX7_minute_179 rfl (lv_at hl 2 rfl) ?_
                      refine gF S hK hP i7 e_M rfl 35 (by decide) k59 f_M_comerSort dX7_minute_180 ?_
                      refine lv_aload_n hx hb dX7_minute_183 rfl (lv_at hl 2 rfl) ?_
                      refine gF S hK hP i7 e_M rfl 32 (by decide) k164 f_M_comers dX7_minute_184 ?_
                      refine lv_iload_n hx hb dX7_minute_187 rfl (lv_at hl 4 rfl) ?_
                      obtain ⟨hb_65, hF⟩ := hF
                      refine stA S hK had hP hS (k := 49) rfl hb_65 dX7_minute_188 (fun M_64 H locs eM_64 hP hS => ?_)
                      have hF := hF M_64 eM_64
                      refine lv_aload_n hx hb dX7_minute_189 rfl (lv_at hl 2 rfl) ?_
                      refine gF S hK hP i7 e_M rfl 36 (by decide) k62 f_M_comerKind dX7_minute_190 ?_
                      refine lv_aload_n hx hb dX7_minute_193 rfl (lv_at hl 2 rfl) ?_
                      refine gF S hK hP i7 e_M rfl 32 (by decide) k164 f_M_comers dX7_minute_194 ?_
                      refine lv_iload hx hb dX7_minute_197 (lv_at hl 0 rfl) ?_
                      refine lv_if_eq (tgt := 206) hx hb dX7_minute_199 (by decide) (fun c_66 => absurd c_66 (by decide)) (fun _ => ?_)
                      refine lv_iconst (v := 1) hx hb dX7_minute_202 (by decide) ?_
                      refine lv_goto (tgt := 207) hx hb dX7_minute_203 (by decide) ?_
                      obtain ⟨hb_68, hF⟩ := hF
                      refine stA S hK had hP hS (k := 50) rfl hb_68 dX7_minute_207 (fun M_67 H locs eM_67 hP hS => ?_)
                      have hF := hF M_67 eM_67
                      refine lv_aload_n hx hb dX7_minute_208 rfl (lv_at hl 2 rfl) ?_
                      refine gF S hK hP i7 e_M rfl 37 (by decide) k65 f_M_waited dX7_minute_209 ?_
                      refine lv_aload_n hx hb dX7_minute_212 rfl (lv_at hl 2 rfl) ?_
                      refine gF S hK hP i7 e_M rfl 32 (by decide) k164 f_M_comers dX7_minute_213 ?_
                      refine lv_iconst (v := 0) hx hb dX7_minute_216 (by decide) ?_
                      obtain ⟨hb_70, hF⟩ := hF
                      refine stA S hK had hP hS (k := 51) rfl hb_70 dX7_minute_217 (fun M_69 H locs eM_69 hP hS => ?_)
                      have hF := hF M_69 eM_69
                      refine lv_aload_n hx hb dX7_minute_218 rfl (lv_at hl 2 rfl) ?_
                      refine gF S hK hP i7 e_M rfl 38 (by decide) k68 f_M_came dX7_minute_219 ?_
                      refine lv_aload_n hx hb dX7_minute_222 rfl (lv_at hl 2 rfl) ?_
                      refine gF S hK hP i7 e_M rfl 32 (by decide) k164 f_M_comers dX7_minute_223 ?_
                      refine lv_aload_n hx hb dX7_minute_226 rfl (lv_at hl 2 rfl) ?_
                      refine gF S hK hP i7 e_M rfl 33 (by decide) k167 f_M_minutes dX7_minute_227 ?_
                      obtain ⟨hb_72, hF⟩ := hF
                      refine stA S hK had hP hS (k := 52) rfl hb_72 dX7_minute_230 (fun M_71 H locs eM_71 hP hS => ?_)
                      have hF := hF M_71 eM_71
                      refine lv_aload_n hx hb dX7_minute_231 rfl (lv_at hl 2 rfl) ?_
                      refine gF S hK hP i7 e_M rfl 39 (by decide) k71 f_M_gone dX7_minute_232 ?_
                      refine lv_aload_n hx hb dX7_minute_235 rfl (lv_at hl 2 rfl) ?_
                      refine gF S hK hP i7 e_M rfl 32 (by decide) k164 f_M_comers dX7_minute_236 ?_
                      refine lv_bipush (v := -9) hx hb dX7_minute_239 (by decide) ?_
                      obtain ⟨hb_74, hF⟩ := hF
                      refine stA S hK had hP hS (k := 53) rfl hb_74 dX7_minute_241 (fun M_73 H locs eM_73 hP hS => ?_)
                      have hF := hF M_73 eM_73
                      refine lv_aload_n hx hb dX7_minute_242 rfl (lv_at hl 2 rfl) ?_
                      refine lv_dup hx hb dX7_minute_243 rfl ?_
                      refine gF S hK hP i7 e_M rfl 32 (by decide) k164 f_M_comers dX7_minute_244 ?_
                      refine lv_iconst (v := 1) hx hb dX7_minute_247 (by decide) ?_
                      refine lv_iadd hx hb dX7_minute_248 ?_
                      refine pF S hK had hP hS i7 tyX7_ok nmX7 e_M rfl 32 (by decide) k164 rfl rfl rfl (Nat.lt_of_lt_of_eq (by decide) len_M.symm) s_M_comers dX7_minute_249 (fun M_75 H locs eM_75 hP hS => ?_)
                      have hF := hF M_75 eM_75
                      refine lv_iload hx hb dX7_minute_252 (lv_at hl 1 rfl) ?_
                      refine lv_iload hx hb dX7_minute_254 (lv_at hl 0 rfl) ?_
                      refine lv_if_eq (tgt := 263) hx hb dX7_minute_256 (by decide) (fun c_76 => absurd c_76 (by decide)) (fun _ => ?_)
                      refine lv_iconst (v := 2) hx hb dX7_minute_259 (by decide) ?_
                      refine lv_goto (tgt := 264) hx hb dX7_minute_260 (by decide) ?_
                      refine lv_iadd hx hb dX7_minute_264 ?_
                      refine lv_istore (lv' := [(5, .int ((0 : Int32) + (2 : Int32))), (6, .int (1 : Int32)), (0, .ref (ad 32)), (1, .int a1), (3, .int r_6), (4, .int r_8)]) hx hb dX7_minute_265 hl (by decide) rfl (fun ls hl => ?_)
                      refine lv_aload_n hx hb dX7_minute_267 rfl (lv_at hl 2 rfl) ?_
                      refine lv_dup hx hb dX7_minute_268 rfl ?_
                      refine gF S hK hP i7 e_M rfl 33 (by decide) k167 f_M_minutes dX7_minute_269 ?_
                      refine lv_iconst (v := 1) hx hb dX7_minute_272 (by decide) ?_
                      refine lv_iadd hx hb dX7_minute_273 ?_
                      refine pF S hK had hP hS i7 tyX7_ok nmX7 e_M rfl 33 (by decide) k167 rfl rfl rfl (Nat.lt_of_lt_of_eq (by decide) len_M.symm) s_M_minutes dX7_minute_274 (fun M_77 H locs eM_77 hP hS => ?_)
                      have hF := hF M_77 eM_77
                      refine lv_iload hx hb dX7_minute_277 (lv_at hl 0 rfl) ?_
                      exact retI S hr hlocks hP hS hF dX7_minute_279
                · have hF := hF.2 c_44
                  refine lv_aload_n hx hb dX7_minute_125 rfl (lv_at hl 1 rfl) ?_
                  refine gF S hK hP i7 e_M rfl 36 (by decide) k62 f_M_comerKind dX7_minute_126 ?_
                  refine lv_iload hx hb dX7_minute_129 (lv_at hl 4 rfl) ?_
                  refine lv_iconst (v := 2) hx hb dX7_minute_131 (by decide) ?_
                  obtain ⟨hb_79, hF⟩ := hF
                  refine stA S hK had hP hS (k := 50) rfl hb_79 dX7_minute_132 (fun M_78 H locs eM_78 hP hS => ?_)
                  have hF := hF M_78 eM_78
                  refine lv_aload_n hx hb dX7_minute_133 rfl (lv_at hl 1 rfl) ?_
                  refine gF S hK hP i7 e_M rfl 39 (by decide) k71 f_M_gone dX7_minute_134 ?_
                  refine lv_iload hx hb dX7_minute_137 (lv_at hl 4 rfl) ?_
                  refine lv_aload_n hx hb dX7_minute_139 rfl (lv_at hl 1 rfl) ?_
                  refine gF S hK hP i7 e_M rfl 33 (by decide) k167 f_M_minutes dX7_minute_140 ?_
                  obtain ⟨hb_81, hF⟩ := hF
                  refine stA S hK had hP hS (k := 53) rfl hb_81 dX7_minute_143 (fun M_80 H locs eM_80 hP hS => ?_)
                  have hF := hF M_80 eM_80
                  refine lv_bipush (v := 100) hx hb dX7_minute_144 (by decide) ?_
                  refine lv_iload hx hb dX7_minute_146 (lv_at hl 4 rfl) ?_
                  refine lv_iconst (v := 1) hx hb dX7_minute_148 (by decide) ?_
                  refine lv_iadd hx hb dX7_minute_149 ?_
                  refine lv_imul hx hb dX7_minute_150 ?_
                  refine lv_istore (lv' := [(5, .int ((100 : Int32) * (r_8 + (1 : Int32)))), (0, .ref (ad 32)), (1, .int a1), (3, .int r_6), (4, .int r_8)]) hx hb dX7_minute_151 hl (by decide) rfl (fun ls hl => ?_)
                  refine lv_iload_n hx hb dX7_minute_153 rfl (lv_at hl 3 rfl) ?_
                  refine lv_bipush (v := -9) hx hb dX7_minute_154 (by decide) ?_
                  refine lv_icmp_eq (tgt := 267) hx hb dX7_minute_156 (by decide) (fun c_82 => ?_) (fun c_82 => ?_)
                  · have hF := hF.1 c_82
                    refine lv_aload_n hx hb dX7_minute_267 rfl (lv_at hl 1 rfl) ?_
                    refine lv_dup hx hb dX7_minute_268 rfl ?_
                    refine gF S hK hP i7 e_M rfl 33 (by decide) k167 f_M_minutes dX7_minute_269 ?_
                    refine lv_iconst (v := 1) hx hb dX7_minute_272 (by decide) ?_
                    refine lv_iadd hx hb dX7_minute_273 ?_
                    refine pF S hK had hP hS i7 tyX7_ok nmX7 e_M rfl 33 (by decide) k167 rfl rfl rfl (Nat.lt_of_lt_of_eq (by decide) len_M.symm) s_M_minutes dX7_minute_274 (fun M_83 H locs eM_83 hP hS => ?_)
                    have hF := hF M_83 eM_83
                    refine lv_iload hx hb dX7_minute_277 (lv_at hl 0 rfl) ?_
                    exact retI S hr hlocks hP hS hF dX7_minute_279
                  · have hF := hF.2 c_82
                    refine lv_aload_n hx hb dX7_minute_159 rfl (lv_at hl 1 rfl) ?_
                    refine goI (rV (rest := []) S hK hP (ctX7_standing l D cI cJ ad had  _ _ hF) (cwV 0 hts gX7_minute_X7_standing rfl rfl rfl hdV_X7_standing ⟨Nat.le_of_ble_eq_true rfl, Nat.le_of_ble_eq_true rfl⟩) e_M rfl rfl hl.1 rfl (Nat.le_of_ble_eq_true rfl) dX7_minute_160 ⟨Nat.zero_le _, Nat.zero_le _⟩) hS (fun _ h => h) (fun r_84 M_84 H locs hP hS hF => ?_)
                    refine lv_aload_n hx hb dX7_minute_163 rfl (lv_at hl 1 rfl) ?_
                    refine gF S hK hP i7 e_M rfl 13 (by decide) k25 f_M_bars dX7_minute_164 ?_
                    refine lv_iload_n hx hb dX7_minute_167 rfl (lv_at hl 3 rfl) ?_
                    obtain ⟨hb_85, hF⟩ := hF
                    refine ldA S hK hP (k := 38) rfl hb_85 dX7_minute_168 ?_
                    refine lv_icmp_ge (tgt := 176) hx hb dX7_minute_169 (by decide) (fun c_86 => ?_) (fun c_86 => ?_)
                    · have hF := hF.1 c_86
                      refine lv_iconst (v := 0) hx hb dX7_minute_176 (by decide) ?_
                      refine lv_istore (lv' := [(6, .int (0 : Int32)), (5, .int ((100 : Int32) * (r_8 + (1 : Int32)))), (0, .ref (ad 32)), (1, .int a1), (3, .int r_6), (4, .int r_8)]) hx hb dX7_minute_177 hl (by decide) rfl (fun ls hl => ?_)
                      refine lv_aload_n hx hb dX7_minute_179 rfl (lv_at hl 2 rfl) ?_
                      refine gF S hK hP i7 e_M rfl 35 (by decide) k59 f_M_comerSort dX7_minute_180 ?_
                      refine lv_aload_n hx hb dX7_minute_183 rfl (lv_at hl 2 rfl) ?_
                      refine gF S hK hP i7 e_M rfl 32 (by decide) k164 f_M_comers dX7_minute_184 ?_
                      refine lv_iload_n hx hb dX7_minute_187 rfl (lv_at hl 4 rfl) ?_
                      obtain ⟨hb_88, hF⟩ := hF
                      refine stA S hK had hP hS (k := 49) rfl hb_88 dX7_minute_188 (fun M_87 H locs eM_87 hP hS => ?_)
                      have hF := hF M_87 eM_87
                      refine lv_aload_n hx hb dX7_minute_189 rfl (lv_at hl 2 rfl) ?_
                      refine gF S hK hP i7 e_M rfl 36 (by decide) k62 f_M_comerKind dX7_minute_190 ?_
                      refine lv_aload_n hx hb dX7_minute_193 rfl (lv_at hl 2 rfl) ?_
                      refine gF S hK hP i7 e_M rfl 32 (by decide) k164 f_M_comers dX7_minute_194 ?_
                      refine lv_iload hx hb dX7_minute_197 (lv_at hl 0 rfl) ?_
                      refine lv_if_eq (tgt := 206) hx hb dX7_minute_199 (by decide) (fun _ => ?_) (fun c_89 => absurd (by decide) c_89)
                      refine lv_iconst (v := 0) hx hb dX7_minute_206 (by decide) ?_
                      obtain ⟨hb_91, hF⟩ := hF
                      refine stA S hK had hP hS (k := 50) rfl hb_91 dX7_minute_207 (fun M_90 H locs eM_90 hP hS => ?_)
                      have hF := hF M_90 eM_90
                      refine lv_aload_n hx hb dX7_minute_208 rfl (lv_at hl 2 rfl) ?_
                      refine gF S hK hP i7 e_M rfl 37 (by decide) k65 f_M_waited dX7_minute_209 ?_
                      refine lv_aload_n hx hb dX7_minute_212 rfl (lv_at hl 2 rfl) ?_
                      refine gF S hK hP i7 e_M rfl 32 (by decide) k164 f_M_comers dX7_minute_213 ?_
                      refine lv_iconst (v := 0) hx hb dX7_minute_216 (by decide) ?_
                      obtain ⟨hb_93, hF⟩ := hF
                      refine stA S hK had hP hS (k := 51) rfl hb_93 dX7_minute_217 (fun M_92 H locs eM_92 hP hS => ?_)
                      have hF := hF M_92 eM_92
                      refine lv_aload_n hx hb dX7_minute_218 rfl (lv_at hl 2 rfl) ?_
                      refine gF S hK hP i7 e_M rfl 38 (by decide) k68 f_M_came dX7_minute_219 ?_
                      refine lv_aload_n hx hb dX7_minute_222 rfl (lv_at hl 2 rfl) ?_
                      refine gF S hK hP i7 e_M rfl 32 (by decide) k164 f_M_comers dX7_minute_223 ?_
                      refine lv_aload_n hx hb dX7_minute_226 rfl (lv_at hl 2 rfl) ?_
                      refine gF S hK hP i7 e_M rfl 33 (by decide) k167 f_M_minutes dX7_minute_227 ?_
                      obtain ⟨hb_95, hF⟩ := hF
                      refine stA S hK had hP hS (k := 52) rfl hb_95 dX7_minute_230 (fun M_94 H locs eM_94 hP hS => ?_)
                      have hF := hF M_94 eM_94
                      refine lv_aload_n hx hb dX7_minute_231 rfl (lv_at hl 2 rfl) ?_
                      refine gF S hK hP i7 e_M rfl 39 (by decide) k71 f_M_gone dX7_minute_232 ?_
                      refine lv_aload_n hx hb dX7_minute_235 rfl (lv_at hl 2 rfl) ?_
                      refine gF S hK hP i7 e_M rfl 32 (by decide) k164 f_M_comers dX7_minute_236 ?_
                      refine lv_bipush (v := -9) hx hb dX7_minute_239 (by decide) ?_
                      obtain ⟨hb_97, hF⟩ := hF
                      refine stA S hK had hP hS (k := 53) rfl hb_97 dX7_minute_241 (fun M_96 H locs eM_96 hP hS => ?_)
                      have hF := hF M_96 eM_96
                      refine lv_aload_n hx hb dX7_minute_242 rfl (lv_at hl 2 rfl) ?_
                      refine lv_dup hx hb dX7_minute_243 rfl ?_
                      refine gF S hK hP i7 e_M rfl 32 (by decide) k164 f_M_comers dX7_minute_244 ?_
                      refine lv_iconst (v := 1) hx hb dX7_minute_247 (by decide) ?_
                      refine lv_iadd hx hb dX7_minute_248 ?_
                      refine pF S hK had hP hS i7 tyX7_ok nmX7 e_M rfl 32 (by decide) k164 rfl rfl rfl (Nat.lt_of_lt_of_eq (by decide) len_M.symm) s_M_comers dX7_minute_249 (fun M_98 H locs eM_98 hP hS => ?_)
                      have hF := hF M_98 eM_98
                      refine lv_iload hx hb dX7_minute_252 (lv_at hl 1 rfl) ?_
                      refine lv_iload hx hb dX7_minute_254 (lv_at hl 0 rfl) ?_
                      refine lv_if_eq (tgt := 263) hx hb dX7_minute_256 (by decide) (fun _ => ?_) (fun c_99 => absurd (by decide) c_99)
                      refine lv_iconst (v := 1) hx hb dX7_minute_263 (by decide) ?_
                      refine lv_iadd hx hb dX7_minute_264 ?_
                      refine lv_istore (lv' := [(5, .int (((100 : Int32) * (r_8 + (1 : Int32))) + (1 : Int32))), (6, .int (0 : Int32)), (0, .ref (ad 32)), (1, .int a1), (3, .int r_6), (4, .int r_8)]) hx hb dX7_minute_265 hl (by decide) rfl (fun ls hl => ?_)
                      refine lv_aload_n hx hb dX7_minute_267 rfl (lv_at hl 2 rfl) ?_
                      refine lv_dup hx hb dX7_minute_268 rfl ?_
                      refine gF S hK hP i7 e_M rfl 33 (by decide) k167 f_M_minutes dX7_minute_269 ?_
                      refine lv_iconst (v := 1) hx hb dX7_minute_272 (by decide) ?_
                      refine lv_iadd hx hb dX7_minute_273 ?_
                      refine pF S hK had hP hS i7 tyX7_ok nmX7 e_M rfl 33 (by decide) k167 rfl rfl rfl (Nat.lt_of_lt_of_eq (by decide) len_M.symm) s_M_minutes dX7_minute_274 (fun M_100 H locs eM_100 hP hS => ?_)
                      have hF := hF M_100 eM_100
                      refine lv_iload hx hb dX7_minute_277 (lv_at hl 0 rfl) ?_
                      exact retI S hr hlocks hP hS hF dX7_minute_279
                    · have hF := hF.2 c_86
                      refine lv_iconst (v := 1) hx hb dX7_minute_172 (by decide) ?_
                      refine lv_goto (tgt := 177) hx hb dX7_minute_173 (by decide) ?_
                      refine lv_istore (lv' := [(6, .int (1 : Int32)), (5, .int ((100 : Int32) * (r_8 + (1 : Int32)))), (0, .ref (ad 32)), (1, .int a1), (3, .int r_6), (4, .int r_8)]) hx hb dX7_minute_177 hl (by decide) rfl (fun ls hl => ?_)
                      refine lv_aload_n hx hb dX7_minute_179 rfl (lv_at hl 2 rfl) ?_
                      refine gF S hK hP i7 e_M rfl 35 (by decide) k59 f_M_comerSort dX7_minute_180 ?_
                      refine lv_aload_n hx hb dX7_minute_183 rfl (lv_at hl 2 rfl) ?_
                      refine gF S hK hP i7 e_M rfl 32 (by decide) k164 f_M_comers dX7_minute_184 ?_
                      refine lv_iload_n hx hb dX7_minute_187 rfl (lv_at hl 4 rfl) ?_
                      obtain ⟨hb_102, hF⟩ := hF
                      refine stA S hK had hP hS (k := 49) rfl hb_102 dX7_minute_188 (fun M_101 H locs eM_101 hP hS => ?_)
                      have hF := hF M_101 eM_101
                      refine lv_aload_n hx hb dX7_minute_189 rfl (lv_at hl 2 rfl) ?_
                      refine gF S hK hP i7 e_M rfl 36 (by decide) k62 f_M_comerKind dX7_minute_190 ?_
                      refine lv_aload_n hx hb dX7_minute_193 rfl (lv_at hl 2 rfl) ?_
                      refine gF S hK hP i7 e_M rfl 32 (by decide) k164 f_M_comers dX7_minute_194 ?_
                      refine lv_iload hx hb dX7_minute_197 (lv_at hl 0 rfl) ?_
                      refine lv_if_eq (tgt := 206) hx hb dX7_minute_199 (by decide) (fun c_103 => absurd c_103 (by decide)) (fun _ => ?_)
                      refine lv_iconst (v := 1) hx hb dX7_minute_202 (by decide) ?_
                      refine lv_goto (tgt := 207) hx hb dX7_minute_203 (by decide) ?_
                      obtain ⟨hb_105, hF⟩ := hF
                      refine stA S hK had hP hS (k := 50) rfl hb_105 dX7_minute_207 (fun M_104 H locs eM_104 hP hS => ?_)
                      have hF := hF M_104 eM_104
                      refine lv_aload_n hx hb dX7_minute_208 rfl (lv_at hl 2 rfl) ?_
                      refine gF S hK hP i7 e_M rfl 37 (by decide) k65 f_M_waited dX7_minute_209 ?_
                      refine lv_aload_n hx hb dX7_minute_212 rfl (lv_at hl 2 rfl) ?_
                      refine gF S hK hP i7 e_M rfl 32 (by decide) k164 f_M_comers dX7_minute_213 ?_
                      refine lv_iconst (v := 0) hx hb dX7_minute_216 (by decide) ?_
                      obtain ⟨hb_107, hF⟩ := hF
                      refine stA S hK had hP hS (k := 51) rfl hb_107 dX7_minute_217 (fun M_106 H locs eM_106 hP hS => ?_)
                      have hF := hF M_106 eM_106
                      refine lv_aload_n hx hb dX7_minute_218 rfl (lv_at hl 2 rfl) ?_
                      refine gF S hK hP i7 e_M rfl 38 (by decide) k68 f_M_came dX7_minute_219 ?_
                      refine lv_aload_n hx hb dX7_minute_222 rfl (lv_at hl 2 rfl) ?_
                      refine gF S hK hP i7 e_M rfl 32 (by decide) k164 f_M_comers dX7_minute_223 ?_
                      refine lv_aload_n hx hb dX7_minute_226 rfl (lv_at hl 2 rfl) ?_
                      refine gF S hK hP i7 e_M rfl 33 (by decide) k167 f_M_minutes dX7_minute_227 ?_
                      obtain ⟨hb_109, hF⟩ := hF
                      refine stA S hK had hP hS (k := 52) rfl hb_109 dX7_minute_230 (fun M_108 H locs eM_108 hP hS => ?_)
                      have hF := hF M_108 eM_108
                      refine lv_aload_n hx hb dX7_minute_231 rfl (lv_at hl 2 rfl) ?_
                      refine gF S hK hP i7 e_M rfl 39 (by decide) k71 f_M_gone dX7_minute_232 ?_
                      refine lv_aload_n hx hb dX7_minute_235 rfl (lv_at hl 2 rfl) ?_
                      refine gF S hK hP i7 e_M rfl 32 (by decide) k164 f_M_comers dX7_minute_236 ?_
                      refine lv_bipush (v := -9) hx hb dX7_minute_239 (by decide) ?_
                      obtain ⟨hb_111, hF⟩ := hF
                      refine stA S hK had hP hS (k := 53) rfl hb_111 dX7_minute_241 (fun M_110 H locs eM_110 hP hS => ?_)
                      have hF := hF M_110 eM_110
                      refine lv_aload_n hx hb dX7_minute_242 rfl (lv_at hl 2 rfl) ?_
                      refine lv_dup hx hb dX7_minute_243 rfl ?_
                      refine gF S hK hP i7 e_M rfl 32 (by decide) k164 f_M_comers dX7_minute_244 ?_
                      refine lv_iconst (v := 1) hx hb dX7_minute_247 (by decide) ?_
                      refine lv_iadd hx hb dX7_minute_248 ?_
                      refine pF S hK had hP hS i7 tyX7_ok nmX7 e_M rfl 32 (by decide) k164 rfl rfl rfl (Nat.lt_of_lt_of_eq (by decide) len_M.symm) s_M_comers dX7_minute_249 (fun M_112 H locs eM_112 hP hS => ?_)
                      have hF := hF M_112 eM_112
                      refine lv_iload hx hb dX7_minute_252 (lv_at hl 1 rfl) ?_
                      refine lv_iload hx hb dX7_minute_254 (lv_at hl 0 rfl) ?_
                      refine lv_if_eq (tgt := 263) hx hb dX7_minute_256 (by decide) (fun c_113 => absurd c_113 (by decide)) (fun _ => ?_)
                      refine lv_iconst (v := 2) hx hb dX7_minute_259 (by decide) ?_
                      refine lv_goto (tgt := 264) hx hb dX7_minute_260 (by decide) ?_
                      refine lv_iadd hx hb dX7_minute_264 ?_
                      refine lv_istore (lv' := [(5, .int (((100 : Int32) * (r_8 + (1 : Int32))) + (2 : Int32))), (6, .int (1 : Int32)), (0, .ref (ad 32)), (1, .int a1), (3, .int r_6), (4, .int r_8)]) hx hb dX7_minute_265 hl (by decide) rfl (fun ls hl => ?_)
                      refine lv_aload_n hx hb dX7_minute_267 rfl (lv_at hl 2 rfl) ?_
                      refine lv_dup hx hb dX7_minute_268 rfl ?_
                      refine gF S hK hP i7 e_M rfl 33 (by decide) k167 f_M_minutes dX7_minute_269 ?_
                      refine lv_iconst (v := 1) hx hb dX7_minute_272 (by decide) ?_
                      refine lv_iadd hx hb dX7_minute_273 ?_
                      refine pF S hK had hP hS i7 tyX7_ok nmX7 e_M rfl 33 (by decide) k167 rfl rfl rfl (Nat.lt_of_lt_of_eq (by decide) len_M.symm) s_M_minutes dX7_minute_274 (fun M_114 H locs eM_114 hP hS => ?_)
                      have hF := hF M_114 eM_114
                      refine lv_iload hx hb dX7_minute_277 (lv_at hl 0 rfl) ?_
                      exact retI S hr hlocks hP hS hF dX7_minute_279
            · have hF := hF.2 c_9
              refine lv_aload_n hx hb dX7_minute_75 rfl (lv_at hl 0 rfl) ?_
              refine gF S hK hP i7 e_M rfl 37 (by decide) k65 f_M_waited dX7_minute_76 ?_
              refine lv_iload hx hb dX7_minute_79 (lv_at hl 4 rfl) ?_
              refine lv_dup2_11 hx hb dX7_minute_81 rfl rfl ?_
              obtain ⟨hb_115, hF⟩ := hF
              refine ldA S hK hP (k := 51) rfl hb_115 dX7_minute_82 ?_
              refine lv_aload_n hx hb dX7_minute_83 rfl (lv_at hl 0 rfl) ?_
              refine gF S hK hP i7 e_M rfl 36 (by decide) k62 f_M_comerKind dX7_minute_84 ?_
              refine lv_iload hx hb dX7_minute_87 (lv_at hl 4 rfl) ?_
              obtain ⟨hb_116, hF⟩ := hF
              refine ldA S hK hP (k := 50) rfl hb_116 dX7_minute_89 ?_
              refine lv_iconst (v := 1) hx hb dX7_minute_90 (by decide) ?_
              refine lv_icmp_ne (tgt := 98) hx hb dX7_minute_91 (by decide) (fun c_117 => ?_) (fun c_117 => ?_)
              · have hF := hF.2 c_117
                refine lv_iconst (v := 0) hx hb dX7_minute_98 (by decide) ?_
                refine lv_iadd hx hb dX7_minute_99 ?_
                obtain ⟨hb_119, hF⟩ := hF
                refine stA S hK had hP hS (k := 51) rfl hb_119 dX7_minute_100 (fun M_118 H locs eM_118 hP hS => ?_)
                have hF := hF M_118 eM_118
                refine lv_iinc (v := (x5_66 + 1)) (lv' := [(5, .int (x5_66 + 1)), (0, .ref (ad 32)), (1, .int a1), (3, .int r_6), (4, .int r_8)]) hx hb dX7_minute_101 hl (k := 4) rfl rfl (by decide) rfl (fun ls hl => ?_)
                refine lv_goto (tgt := 66) hx hb dX7_minute_104 (by decide) ?_
                exact hJ_66 _ _ hF _ _ _ hP hS (lv_sub hl [1, 2, 3, 4, 0] rfl)
              · have hF := hF.1 c_117
                refine lv_iconst (v := 1) hx hb dX7_minute_94 (by decide) ?_
                refine lv_goto (tgt := 99) hx hb dX7_minute_95 (by decide) ?_
                refine lv_iadd hx hb dX7_minute_99 ?_
                obtain ⟨hb_121, hF⟩ := hF
                refine stA S hK had hP hS (k := 51) rfl hb_121 dX7_minute_100 (fun M_120 H locs eM_120 hP hS => ?_)
                have hF := hF M_120 eM_120
                refine lv_iinc (v := (x5_66 + 1)) (lv' := [(5, .int (x5_66 + 1)), (0, .ref (ad 32)), (1, .int a1), (3, .int r_6), (4, .int r_8)]) hx hb dX7_minute_101 hl (k := 4) rfl rfl (by decide) rfl (fun ls hl => ?_)
                refine lv_goto (tgt := 66) hx hb dX7_minute_104 (by decide) ?_
                exact hJ_66 _ _ hF _ _ _ hP hS (lv_sub hl [1, 2, 3, 4, 0] rfl)
          exact key_66 _ _ hF _ _ _ hP hS (lv_sub hl [3, 4, 2, 1, 0] rfl)
        · have hF := hF.2 c_7
          refine lv_aload_n hx hb dX7_minute_45 rfl (lv_at hl 1 rfl) ?_
          refine gF S hK hP i7 e_M rfl 32 (by decide) k164 f_M_comers dX7_minute_46 ?_
          refine lv_bipush (v := 40) hx hb dX7_minute_49 (by decide) ?_
          refine lv_icmp_ne (tgt := 57) hx hb dX7_minute_51 (by decide) (fun c_122 => ?_) (fun c_122 => ?_)
          · have hF := hF.2 c_122
            refine lv_aload_n hx hb dX7_minute_57 rfl (lv_at hl 1 rfl) ?_
            refine goI (rV (rest := []) S hK hP (ctX7_nextServed l D cI cJ ad had  _ _ hF) (cwV 0 hts gX7_minute_X7_nextServed rfl rfl rfl hdV_X7_nextServed ⟨Nat.le_of_ble_eq_true rfl, Nat.le_of_ble_eq_true rfl⟩) e_M rfl rfl hl.1 rfl (Nat.le_of_ble_eq_true rfl) dX7_minute_58 ⟨Nat.zero_le _, Nat.zero_le _⟩) hS (fun _ h => h) (fun r_123 M_123 H locs hP hS hF => ?_)
            refine lv_istore (lv' := [(4, .int r_123), (3, .int r_6), (0, .ref (ad 32)), (1, .int a1), (2, .int a2)]) hx hb dX7_minute_61 hl (by decide) rfl (fun ls hl => ?_)
            refine lv_iconst (v := 0) hx hb dX7_minute_63 (by decide) ?_
            refine lv_istore (lv' := [(5, .int (0 : Int32)), (4, .int r_123), (3, .int r_6), (0, .ref (ad 32)), (1, .int a1), (2, .int a2)]) hx hb dX7_minute_64 hl (by decide) rfl (fun ls hl => ?_)
            have key_66 : ∀ (x5_66 : Int32) (m66 : Mm), (lX7_minute_66a a1 r_6 r_123 Q x5_66 m66) → Wc p l e ({ frames := 1, cells := 0, slots := 0, locals := 23 } : Room) s m args below meth c D cI cJ ad (MQ below (QiW D cI cJ ad Q) args s 0 0 (Fr ad)) 7 66 [(0, .ref (ad 32)), (1, .int a1), (3, .int r_6), (4, .int r_123), (5, .int x5_66)] m66 := by
              intro x5_66 m66 hL
              refine hL (fun x5_66 m66 => Wc p l e ({ frames := 1, cells := 0, slots := 0, locals := 23 } : Room) s m args below meth c D cI cJ ad (MQ below (QiW D cI cJ ad Q) args s 0 0 (Fr ad)) 7 66 [(0, .ref (ad 32)), (1, .int a1), (3, .int r_6), (4, .int r_123), (5, .int x5_66)] m66) ?_
              intro J_66 hJ_66 x5_66 m66 hF H locs ls hP hS hl
              unfold bX7_minute_66a at hF
              refine lv_iload hx hb dX7_minute_66 (lv_at hl 4 rfl) ?_
              refine lv_aload_n hx hb dX7_minute_68 rfl (lv_at hl 0 rfl) ?_
              refine gF S hK hP i7 e_M rfl 32 (by decide) k164 f_M_comers dX7_minute_69 ?_
              refine lv_icmp_ge (tgt := 107) hx hb dX7_minute_72 (by decide) (fun c_124 => ?_) (fun c_124 => ?_)
              · have hF := hF.1 c_124
                refine lv_iconst (v := 0) hx hb dX7_minute_107 (by decide) ?_
                refine lv_istore (lv' := [(5, .int (0 : Int32)), (0, .ref (ad 32)), (1, .int a1), (3, .int r_6), (4, .int r_123)]) hx hb dX7_minute_108 hl (by decide) rfl (fun ls hl => ?_)
                refine lv_iload hx hb dX7_minute_110 (lv_at hl 4 rfl) ?_
                refine lv_bipush (v := -9) hx hb dX7_minute_112 (by decide) ?_
                refine lv_icmp_eq (tgt := 153) hx hb dX7_minute_114 (by decide) (fun c_125 => ?_) (fun c_125 => ?_)
                · have hF := hF.1 c_125
                  refine lv_iload_n hx hb dX7_minute_153 rfl (lv_at hl 3 rfl) ?_
                  refine lv_bipush (v := -9) hx hb dX7_minute_154 (by decide) ?_
                  refine lv_icmp_eq (tgt := 267) hx hb dX7_minute_156 (by decide) (fun c_126 => ?_) (fun c_126 => ?_)
                  · have hF := hF.1 c_126
                    refine lv_aload_n hx hb dX7_minute_267 rfl (lv_at hl 1 rfl) ?_
                    refine lv_dup hx hb dX7_minute_268 rfl ?_
                    refine gF S hK hP i7 e_M rfl 33 (by decide) k167 f_M_minutes dX7_minute_269 ?_
                    refine lv_iconst (v := 1) hx hb dX7_minute_272 (by decide) ?_
                    refine lv_iadd hx hb dX7_minute_273 ?_
                    refine pF S hK had hP hS i7 tyX7_ok nmX7 e_M rfl 33 (by decide) k167 rfl rfl rfl (Nat.lt_of_lt_of_eq (by decide) len_M.symm) s_M_minutes dX7_minute_274 (fun M_127 H locs eM_127 hP hS => ?_)
                    have hF := hF M_127 eM_127
                    refine lv_iload hx hb dX7_minute_277 (lv_at hl 0 rfl) ?_
                    exact retI S hr hlocks hP hS hF dX7_minute_279
                  · have hF := hF.2 c_126
                    refine lv_aload_n hx hb dX7_minute_159 rfl (lv_at hl 1 rfl) ?_
                    refine goI (rV (rest := []) S hK hP (ctX7_standing l D cI cJ ad had  _ _ hF) (cwV 0 hts gX7_minute_X7_standing rfl rfl rfl hdV_X7_standing ⟨Nat.le_of_ble_eq_true rfl, Nat.le_of_ble_eq_true rfl⟩) e_M rfl rfl hl.1 rfl (Nat.le_of_ble_eq_true rfl) dX7_minute_160 ⟨Nat.zero_le _, Nat.zero_le _⟩) hS (fun _ h => h) (fun r_128 M_128 H locs hP hS hF => ?_)
                    refine lv_aload_n hx hb dX7_minute_163 rfl (lv_at hl 1 rfl) ?_
                    refine gF S hK hP i7 e_M rfl 13 (by decide) k25 f_M_bars dX7_minute_164 ?_
                    refine lv_iload_n hx hb dX7_minute_167 rfl (lv_at hl 3 rfl) ?_
                    obtain ⟨hb_129, hF⟩ := hF
                    refine ldA S hK hP (k := 38) rfl hb_129 dX7_minute_168 ?_
                    refine lv_icmp_ge (tgt := 176) hx hb dX7_minute_169 (by decide) (fun c_130 => ?_) (fun c_130 => ?_)
                    · have hF := hF.1 c_130
                      refine lv_iconst (v := 0) hx hb dX7_minute_176 (by decide) ?_
                      refine lv_istore (lv' := [(6, .int (0 : Int32)), (5, .int (0 : Int32)), (0, .ref (ad 32)), (1, .int a1), (3, .int r_6), (4, .int r_123)]) hx hb dX7_minute_177 hl (by decide) rfl (fun ls hl => ?_)
                      refine lv_aload_n hx hb dX7_minute_179 rfl (lv_at hl 2 rfl) ?_
                      refine gF S hK hP i7 e_M rfl 35 (by decide) k59 f_M_comerSort dX7_minute_180 ?_
                      refine lv_aload_n hx hb dX7_minute_183 rfl (lv_at hl 2 rfl) ?_
                      refine gF S hK hP i7 e_M rfl 32 (by decide) k164 f_M_comers dX7_minute_184 ?_
                      refine lv_iload_n hx hb dX7_minute_187 rfl (lv_at hl 4 rfl) ?_
                      obtain ⟨hb_132, hF⟩ := hF
                      refine stA S hK had hP hS (k := 49) rfl hb_132 dX7_minute_188 (fun M_131 H locs eM_131 hP hS => ?_)
                      have hF := hF M_131 eM_131
                      refine lv_aload_n hx hb dX7_minute_189 rfl (lv_at hl 2 rfl) ?_
                      refine gF S hK hP i7 e_M rfl 36 (by decide) k62 f_M_comerKind dX7_minute_190 ?_
                      refine lv_aload_n hx hb dX7_minute_193 rfl (lv_at hl 2 rfl) ?_
                      refine gF S hK hP i7 e_M rfl 32 (by decide) k164 f_M_comers dX7_minute_194 ?_
                      refine lv_iload hx hb dX7_minute_197 (lv_at hl 0 rfl) ?_
                      refine lv_if_eq (tgt := 206) hx hb dX7_minute_199 (by decide) (fun _ => ?_) (fun c_133 => absurd (by decide) c_133)
                      refine lv_iconst (v := 0) hx hb dX7_minute_206 (by decide) ?_
                      obtain ⟨hb_135, hF⟩ := hF
                      refine stA S hK had hP hS (k := 50) rfl hb_135 dX7_minute_207 (fun M_134 H locs eM_134 hP hS => ?_)
                      have hF := hF M_134 eM_134
                      refine lv_aload_n hx hb dX7_minute_208 rfl (lv_at hl 2 rfl) ?_
                      refine gF S hK hP i7 e_M rfl 37 (by decide) k65 f_M_waited dX7_minute_209 ?_
                      refine lv_aload_n hx hb dX7_minute_212 rfl (lv_at hl 2 rfl) ?_
                      refine gF S hK hP i7 e_M rfl 32 (by decide) k164 f_M_comers dX7_minute_213 ?_
                      refine lv_iconst (v := 0) hx hb dX7_minute_216 (by decide) ?_
                      obtain ⟨hb_137, hF⟩ := hF
                      refine stA S hK had hP hS (k := 51) rfl hb_137 dX7_minute_217 (fun M_136 H locs eM_136 hP hS => ?_)
                      have hF := hF M_136 eM_136
                      refine lv_aload_n hx hb dX7_minute_218 rfl (lv_at hl 2 rfl) ?_
                      refine gF S hK hP i7 e_M rfl 38 (by decide) k68 f_M_came dX7_minute_219 ?_
                      refine lv_aload_n hx hb dX7_minute_222 rfl (lv_at hl 2 rfl) ?_
                      refine gF S hK hP i7 e_M rfl 32 (by decide) k164 f_M_comers dX7_minute_223 ?_
                      refine lv_aload_n hx hb dX7_minute_226 rfl (lv_at hl 2 rfl) ?_
                      refine gF S hK hP i7 e_M rfl 33 (by decide) k167 f_M_minutes dX7_minute_227 ?_
                      obtain ⟨hb_139, hF⟩ := hF
                      refine stA S hK had hP hS (k := 52) rfl hb_139 dX7_minute_230 (fun M_138 H locs eM_138 hP hS => ?_)
                      have hF := hF M_138 eM_138
                      refine lv_aload_n hx hb dX7_minute_231 rfl (lv_at hl 2 rfl) ?_
                      refine gF S hK hP i7 e_M rfl 39 (by decide) k71 f_M_gone dX7_minute_232 ?_
                      refine lv_aload_n hx hb dX7_minute_235 rfl (lv_at hl 2 rfl) ?_
                      refine gF S hK hP i7 e_M rfl 32 (by decide) k164 f_M_comers dX7_minute_236 ?_
                      refine lv_bipush (v := -9) hx hb dX7_minute_239 (by decide) ?_
                      obtain ⟨hb_141, hF⟩ := hF
                      refine stA S hK had hP hS (k := 53) rfl hb_141 dX7_minute_241 (fun M_140 H locs eM_140 hP hS => ?_)
                      have hF := hF M_140 eM_140
                      refine lv_aload_n hx hb dX7_minute_242 rfl (lv_at hl 2 rfl) ?_
                      refine lv_dup hx hb dX7_minute_243 rfl ?_
                      refine gF S hK hP i7 e_M rfl 32 (by decide) k164 f_M_comers dX7_minute_244 ?_
                      refine lv_iconst (v := 1) hx hb dX7_minute_247 (by decide) ?_
                      refine lv_iadd hx hb dX7_minute_248 ?_
                      refine pF S hK had hP hS i7 tyX7_ok nmX7 e_M rfl 32 (by decide) k164 rfl rfl rfl (Nat.lt_of_lt_of_eq (by decide) len_M.symm) s_M_comers dX7_minute_249 (fun M_142 H locs eM_142 hP hS => ?_)
                      have hF := hF M_142 eM_142
                      refine lv_iload hx hb dX7_minute_252 (lv_at hl 1 rfl) ?_
                      refine lv_iload hx hb dX7_minute_254 (lv_at hl 0 rfl) ?_
                      refine lv_if_eq (tgt := 263) hx hb dX7_minute_256 (by decide) (fun _ => ?_) (fun c_143 => absurd (by decide) c_143)
                      refine lv_iconst (v := 1) hx hb dX7_minute_263 (by decide) ?_
                      refine lv_iadd hx hb dX7_minute_264 ?_
                      refine lv_istore (lv' := [(5, .int ((0 : Int32) + (1 : Int32))), (6, .int (0 : Int32)), (0, .ref (ad 32)), (1, .int a1), (3, .int r_6), (4, .int r_123)]) hx hb dX7_minute_265 hl (by decide) rfl (fun ls hl => ?_)
                      refine lv_aload_n hx hb dX7_minute_267 rfl (lv_at hl 2 rfl) ?_
                      refine lv_dup hx hb dX7_minute_268 rfl ?_
                      refine gF S hK hP i7 e_M rfl 33 (by decide) k167 f_M_minutes dX7_minute_269 ?_
                      refine lv_iconst (v := 1) hx hb dX7_minute_272 (by decide) ?_
                      refine lv_iadd hx hb dX7_minute_273 ?_
                      refine pF S hK had hP hS i7 tyX7_ok nmX7 e_M rfl 33 (by decide) k167 rfl rfl rfl (Nat.lt_of_lt_of_eq (by decide) len_M.symm) s_M_minutes dX7_minute_274 (fun M_144 H locs eM_144 hP hS => ?_)
                      have hF := hF M_144 eM_144
                      refine lv_iload hx hb dX7_minute_277 (lv_at hl 0 rfl) ?_
                      exact retI S hr hlocks hP hS hF dX7_minute_279
                    · have hF := hF.2 c_130
                      refine lv_iconst (v := 1) hx hb dX7_minute_172 (by decide) ?_
                      refine lv_goto (tgt := 177) hx hb dX7_minute_173 (by decide) ?_
                      refine lv_istore (lv' := [(6, .int (1 : Int32)), (5, .int (0 : Int32)), (0, .ref (ad 32)), (1, .int a1), (3, .int r_6), (4, .int r_123)]) hx hb dX7_minute_177 hl (by decide) rfl (fun ls hl => ?_)
                      refine lv_aload_n hx hb dX7_minute_179 rfl (lv_at hl 2 rfl) ?_
                      refine gF S hK hP i7 e_M rfl 35 (by decide) k59 f_M_comerSort dX7_minute_180 ?_
                      refine lv_aload_n hx hb dX7_minute_183 rfl (lv_at hl 2 rfl) ?_
                      refine gF S hK hP i7 e_M rfl 32 (by decide) k164 f_M_comers dX7_minute_184 ?_
                      refine lv_iload_n hx hb dX7_minute_187 rfl (lv_at hl 4 rfl) ?_
                      obtain ⟨hb_146, hF⟩ := hF
                      refine stA S hK had hP hS (k := 49) rfl hb_146 dX7_minute_188 (fun M_145 H locs eM_145 hP hS => ?_)
                      have hF := hF M_145 eM_145
                      refine lv_aload_n hx hb dX7_minute_189 rfl (lv_at hl 2 rfl) ?_
                      refine gF S hK hP i7 e_M rfl 36 (by decide) k62 f_M_comerKind dX7_minute_190 ?_
                      refine lv_aload_n hx hb dX7_minute_193 rfl (lv_at hl 2 rfl) ?_
                      refine gF S hK hP i7 e_M rfl 32 (by decide) k164 f_M_comers dX7_minute_194 ?_
                      refine lv_iload hx hb dX7_minute_197 (lv_at hl 0 rfl) ?_
                      refine lv_if_eq (tgt := 206) hx hb dX7_minute_199 (by decide) (fun c_147 => absurd c_147 (by decide)) (fun _ => ?_)
                      refine lv_iconst (v := 1) hx hb dX7_minute_202 (by decide) ?_
                      refine lv_goto (tgt := 207) hx hb dX7_minute_203 (by decide) ?_
                      obtain ⟨hb_149, hF⟩ := hF
                      refine stA S hK had hP hS (k := 50) rfl hb_149 dX7_minute_207 (fun M_148 H locs eM_148 hP hS => ?_)
                      have hF := hF M_148 eM_148
                      refine lv_aload_n hx hb dX7_minute_208 rfl (lv_at hl 2 rfl) ?_
                      refine gF S hK hP i7 e_M rfl 37 (by decide) k65 f_M_waited dX7_minute_209 ?_
                      refine lv_aload_n hx hb dX7_minute_212 rfl (lv_at hl 2 rfl) ?_
                      refine gF S hK hP i7 e_M rfl 32 (by decide) k164 f_M_comers dX7_minute_213 ?_
                      refine lv_iconst (v := 0) hx hb dX7_minute_216 (by decide) ?_
                      obtain ⟨hb_151, hF⟩ := hF
                      refine stA S hK had hP hS (k := 51) rfl hb_151 dX7_minute_217 (fun M_150 H locs eM_150 hP hS => ?_)
                      have hF := hF M_150 eM_150
                      refine lv_aload_n hx hb dX7_minute_218 rfl (lv_at hl 2 rfl) ?_
                      refine gF S hK hP i7 e_M rfl 38 (by decide) k68 f_M_came dX7_minute_219 ?_
                      refine lv_aload_n hx hb dX7_minute_222 rfl (lv_at hl 2 rfl) ?_
                      refine gF S hK hP i7 e_M rfl 32 (by decide) k164 f_M_comers dX7_minute_223 ?_
                      refine lv_aload_n hx hb dX7_minute_226 rfl (lv_at hl 2 rfl) ?_
                      refine gF S hK hP i7 e_M rfl 33 (by decide) k167 f_M_minutes dX7_minute_227 ?_
                      obtain ⟨hb_153, hF⟩ := hF
                      refine stA S hK had hP hS (k := 52) rfl hb_153 dX7_minute_230 (fun M_152 H locs eM_152 hP hS => ?_)
                      have hF := hF M_152 eM_152
                      refine lv_aload_n hx hb dX7_minute_231 rfl (lv_at hl 2 rfl) ?_
                      refine gF S hK hP i7 e_M rfl 39 (by decide) k71 f_M_gone dX7_minute_232 ?_
                      refine lv_aload_n hx hb dX7_minute_235 rfl (lv_at hl 2 rfl) ?_
                      refine gF S hK hP i7 e_M rfl 32 (by decide) k164 f_M_comers dX7_minute_236 ?_
                      refine lv_bipush (v := -9) hx hb dX7_minute_239 (by decide) ?_
                      obtain ⟨hb_155, hF⟩ := hF
                      refine stA S hK had hP hS (k := 53) rfl hb_155 dX7_minute_241 (fun M_154 H locs eM_154 hP hS => ?_)
                      have hF := hF M_154 eM_154
                      refine lv_aload_n hx hb dX7_minute_242 rfl (lv_at hl 2 rfl) ?_
                      refine lv_dup hx hb dX7_minute_243 rfl ?_
                      refine gF S hK hP i7 e_M rfl 32 (by decide) k164 f_M_comers dX7_minute_244 ?_
                      refine lv_iconst (v := 1) hx hb dX7_minute_247 (by decide) ?_
                      refine lv_iadd hx hb dX7_minute_248 ?_
                      refine pF S hK had hP hS i7 tyX7_ok nmX7 e_M rfl 32 (by decide) k164 rfl rfl rfl (Nat.lt_of_lt_of_eq (by decide) len_M.symm) s_M_comers dX7_minute_249 (fun M_156 H locs eM_156 hP hS => ?_)
                      have hF := hF M_156 eM_156
                      refine lv_iload hx hb dX7_minute_252 (lv_at hl 1 rfl) ?_
                      refine lv_iload hx hb dX7_minute_254 (lv_at hl 0 rfl) ?_
                      refine lv_if_eq (tgt := 263) hx hb dX7_minute_256 (by decide) (fun c_157 => absurd c_157 (by decide)) (fun _ => ?_)
                      refine lv_iconst (v := 2) hx hb dX7_minute_259 (by decide) ?_
                      refine lv_goto (tgt := 264) hx hb dX7_minute_260 (by decide) ?_
                      refine lv_iadd hx hb dX7_minute_264 ?_
                      refine lv_istore (lv' := [(5, .int ((0 : Int32) + (2 : Int32))), (6, .int (1 : Int32)), (0, .ref (ad 32)), (1, .int a1), (3, .int r_6), (4, .int r_123)]) hx hb dX7_minute_265 hl (by decide) rfl (fun ls hl => ?_)
                      refine lv_aload_n hx hb dX7_minute_267 rfl (lv_at hl 2 rfl) ?_
                      refine lv_dup hx hb dX7_minute_268 rfl ?_
                      refine gF S hK hP i7 e_M rfl 33 (by decide) k167 f_M_minutes dX7_minute_269 ?_
                      refine lv_iconst (v := 1) hx hb dX7_minute_272 (by decide) ?_
                      refine lv_iadd hx hb dX7_minute_273 ?_
                      refine pF S hK had hP hS i7 tyX7_ok nmX7 e_M rfl 33 (by decide) k167 rfl rfl rfl (Nat.lt_of_lt_of_eq (by decide) len_M.symm) s_M_minutes dX7_minute_274 (fun M_158 H locs eM_158 hP hS => ?_)
                      have hF := hF M_158 eM_158
                      refine lv_iload hx hb dX7_minute_277 (lv_at hl 0 rfl) ?_
                      exact retI S hr hlocks hP hS hF dX7_minute_279
                · have hF := hF.2 c_125
                  refine lv_iload_n hx hb dX7_minute_117 rfl (lv_at hl 2 rfl) ?_
                  refine lv_aload_n hx hb dX7_minute_118 rfl (lv_at hl 1 rfl) ?_
                  refine gF S hK hP i7 e_M rfl 8 (by decide) k146 f_M_served dX7_minute_119 ?_
                  refine lv_icmp_ge (tgt := 153) hx hb dX7_minute_122 (by decide) (fun c_159 => ?_) (fun c_159 => ?_)
                  · have hF := hF.1 c_159
                    refine lv_iload_n hx hb dX7_minute_153 rfl (lv_at hl 3 rfl) ?_
                    refine lv_bipush (v := -9) hx hb dX7_minute_154 (by decide) ?_
                    refine lv_icmp_eq (tgt := 267) hx hb dX7_minute_156 (by decide) (fun c_160 => ?_) (fun c_160 => ?_)
                    · have hF := hF.1 c_160
                      refine lv_aload_n hx hb dX7_minute_267 rfl (lv_at hl 1 rfl) ?_
                      refine lv_dup hx hb dX7_minute_268 rfl ?_
                      refine gF S hK hP i7 e_M rfl 33 (by decide) k167 f_M_minutes dX7_minute_269 ?_
                      refine lv_iconst (v := 1) hx hb dX7_minute_272 (by decide) ?_
                      refine lv_iadd hx hb dX7_minute_273 ?_
                      refine pF S hK had hP hS i7 tyX7_ok nmX7 e_M rfl 33 (by decide) k167 rfl rfl rfl (Nat.lt_of_lt_of_eq (by decide) len_M.symm) s_M_minutes dX7_minute_274 (fun M_161 H locs eM_161 hP hS => ?_)
                      have hF := hF M_161 eM_161
                      refine lv_iload hx hb dX7_minute_277 (lv_at hl 0 rfl) ?_
                      exact retI S hr hlocks hP hS hF dX7_minute_279
                    · have hF := hF.2 c_160
                      refine lv_aload_n hx hb dX7_minute_159 rfl (lv_at hl 1 rfl) ?_
                      refine goI (rV (rest := []) S hK hP (ctX7_standing l D cI cJ ad had  _ _ hF) (cwV 0 hts gX7_minute_X7_standing rfl rfl rfl hdV_X7_standing ⟨Nat.le_of_ble_eq_true rfl, Nat.le_of_ble_eq_true rfl⟩) e_M rfl rfl hl.1 rfl (Nat.le_of_ble_eq_true rfl) dX7_minute_160 ⟨Nat.zero_le _, Nat.zero_le _⟩) hS (fun _ h => h) (fun r_162 M_162 H locs hP hS hF => ?_)
                      refine lv_aload_n hx hb dX7_minute_163 rfl (lv_at hl 1 rfl) ?_
                      refine gF S hK hP i7 e_M rfl 13 (by decide) k25 f_M_bars dX7_minute_164 ?_
                      refine lv_iload_n hx hb dX7_minute_167 rfl (lv_at hl 3 rfl) ?_
                      obtain ⟨hb_163, hF⟩ := hF
                      refine ldA S hK hP (k := 38) rfl hb_163 dX7_minute_168 ?_
                      refine lv_icmp_ge (tgt := 176) hx hb dX7_minute_169 (by decide) (fun c_164 => ?_) (fun c_164 => ?_)
                      · have hF := hF.1 c_164
                        refine lv_iconst (v := 0) hx hb dX7_minute_176 (by decide) ?_
                        refine lv_istore (lv' := [(6, .int (0 : Int32)), (5, .int (0 : Int32)), (0, .ref (ad 32)), (1, .int a1), (3, .int r_6), (4, .int r_123)]) hx hb dX7_minute_177 hl (by decide) rfl (fun ls hl => ?_)
                        refine lv_aload_n hx hb dX7_minute_179 rfl (lv_at hl 2 rfl) ?_
                        refine gF S hK hP i7 e_M rfl 35 (by decide) k59 f_M_comerSort dX7_minute_180 ?_
                        refine lv_aload_n hx hb dX7_minute_183 rfl (lv_at hl 2 rfl) ?_
                        refine gF S hK hP i7 e_M rfl 32 (by decide) k164 f_M_comers dX7_minute_184 ?_
                        refine lv_iload_n hx hb dX7_minute_187 rfl (lv_at hl 4 rfl) ?_
                        obtain ⟨hb_166, hF⟩ := hF
                        refine stA S hK had hP hS (k := 49) rfl hb_166 dX7_minute_188 (fun M_165 H locs eM_165 hP hS => ?_)
                        have hF := hF M_165 eM_165
                        refine lv_aload_n hx hb dX7_minute_189 rfl (lv_at hl 2 rfl) ?_
                        refine gF S hK hP i7 e_M rfl 36 (by decide) k62 f_M_comerKind dX7_minute_190 ?_
                        refine lv_aload_n hx hb dX7_minute_193 rfl (lv_at hl 2 rfl) ?_
                        refine gF S hK hP i7 e_M rfl 32 (by decide) k164 f_M_comers dX7_minute_194 ?_
                        refine lv_iload hx hb dX7_minute_197 (lv_at hl 0 rfl) ?_
                        refine lv_if_eq (tgt := 206) hx hb dX7_minute_199 (by decide) (fun _ => ?_) (fun c_167 => absurd (by decide) c_167)
                        refine lv_iconst (v := 0) hx hb dX7_minute_206 (by decide) ?_
                        obtain ⟨hb_169, hF⟩ := hF
                        refine stA S hK had hP hS (k := 50) rfl hb_169 dX7_minute_207 (fun M_168 H locs eM_168 hP hS => ?_)
                        have hF := hF M_168 eM_168
                        refine lv_aload_n hx hb dX7_minute_208 rfl (lv_at hl 2 rfl) ?_
                        refine gF S hK hP i7 e_M rfl 37 (by decide) k65 f_M_waited dX7_minute_209 ?_
                        refine lv_aload_n hx hb dX7_minute_212 rfl (lv_at hl 2 rfl) ?_
                        refine gF S hK hP i7 e_M rfl 32 (by decide) k164 f_M_comers dX7_minute_213 ?_
                        refine lv_iconst (v := 0) hx hb dX7_minute_216 (by decide) ?_
                        obtain ⟨hb_171, hF⟩ := hF
                        refine stA S hK had hP hS (k := 51) rfl hb_171 dX7_minute_217 (fun M_170 H locs eM_170 hP hS => ?_)
                        have hF := hF M_170 eM_170
                        refine lv_aload_n hx hb dX7_minute_218 rfl (lv_at hl 2 rfl) ?_
                        refine gF S hK hP i7 e_M rfl 38 (by decide) k68 f_M_came dX7_minute_219 ?_
                        refine lv_aload_n hx hb dX7_minute_222 rfl (lv_at hl 2 rfl) ?_
                        refine gF S hK hP i7 e_M rfl 32 (by decide) k164 f_M_comers dX7_minute_223 ?_
                        refine lv_aload_n hx hb dX7_minute_226 rfl (lv_at hl 2 rfl) ?_
                        refine gF S hK hP i7 e_M rfl 33 (by decide) k167 f_M_minutes dX7_minute_227 ?_
                        obtain ⟨hb_173, hF⟩ := hF
                        refine stA S hK had hP hS (k := 52) rfl hb_173 dX7_minute_230 (fun M_172 H locs eM_172 hP hS => ?_)
                        have hF := hF M_172 eM_172
                        refine lv_aload_n hx hb dX7_minute_231 rfl (lv_at hl 2 rfl) ?_
                        refine gF S hK hP i7 e_M rfl 39 (by decide) k71 f_M_gone dX7_minute_232 ?_
                        refine lv_aload_n hx hb dX7_minute_235 rfl (lv_at hl 2 rfl) ?_
                        refine gF S hK hP i7 e_M rfl 32 (by decide) k164 f_M_comers dX7_minute_236 ?_
                        refine lv_bipush (v := -9) hx hb dX7_minute_239 (by decide) ?_
                        obtain ⟨hb_175, hF⟩ := hF
                        refine stA S hK had hP hS (k := 53) rfl hb_175 dX7_minute_241 (fun M_174 H locs eM_174 hP hS => ?_)
                        have hF := hF M_174 eM_174
                        refine lv_aload_n hx hb dX7_minute_242 rfl (lv_at hl 2 rfl) ?_
                        refine lv_dup hx hb dX7_minute_243 rfl ?_
                        refine gF S hK hP i7 e_M rfl 32 (by decide) k164 f_M_comers dX7_minute_244 ?_
                        refine lv_iconst (v := 1) hx hb dX7_minute_247 (by decide) ?_
                        refine lv_iadd hx hb dX7_minute_248 ?_
                        refine pF S hK had hP hS i7 tyX7_ok nmX7 e_M rfl 32 (by decide) k164 rfl rfl rfl (Nat.lt_of_lt_of_eq (by decide) len_M.symm) s_M_comers dX7_minute_249 (fun M_176 H locs eM_176 hP hS => ?_)
                        have hF := hF M_176 eM_176
                        refine lv_iload hx hb dX7_minute_252 (lv_at hl 1 rfl) ?_
                        refine lv_iload hx hb dX7_minute_254 (lv_at hl 0 rfl) ?_
                        refine lv_if_eq (tgt := 263) hx hb dX7_minute_256 (by decide) (fun _ => ?_) (fun c_177 => absurd (by decide) c_177)
                        refine lv_iconst (v := 1) hx hb dX7_minute_263 (by decide) ?_
                        refine lv_iadd hx hb dX7_minute_264 ?_
                        refine lv_istore (lv' := [(5, .int ((0 : Int32) + (1 : Int32))), (6, .int (0 : Int32)), (0, .ref (ad 32)), (1, .int a1), (3, .int r_6), (4, .int r_123)]) hx hb dX7_minute_265 hl (by decide) rfl (fun ls hl => ?_)
                        refine lv_aload_n hx hb dX7_minute_267 rfl (lv_at hl 2 rfl) ?_
                        refine lv_dup hx hb dX7_minute_268 rfl ?_
                        refine gF S hK hP i7 e_M rfl 33 (by decide) k167 f_M_minutes dX7_minute_269 ?_
                        refine lv_iconst (v := 1) hx hb dX7_minute_272 (by decide) ?_
                        refine lv_iadd hx hb dX7_minute_273 ?_
                        refine pF S hK had hP hS i7 tyX7_ok nmX7 e_M rfl 33 (by decide) k167 rfl rfl rfl (Nat.lt_of_lt_of_eq (by decide) len_M.symm) s_M_minutes dX7_minute_274 (fun M_178 H locs eM_178 hP hS => ?_)
                        have hF := hF M_178 eM_178
                        refine lv_iload hx hb dX7_minute_277 (lv_at hl 0 rfl) ?_
                        exact retI S hr hlocks hP hS hF dX7_minute_279
                      · have hF := hF.2 c_164
                        refine lv_iconst (v := 1) hx hb dX7_minute_172 (by decide) ?_
                        refine lv_goto (tgt := 177) hx hb dX7_minute_173 (by decide) ?_
                        refine lv_istore (lv' := [(6, .int (1 : Int32)), (5, .int (0 : Int32)), (0, .ref (ad 32)), (1, .int a1), (3, .int r_6), (4, .int r_123)]) hx hb dX7_minute_177 hl (by decide) rfl (fun ls hl => ?_)
                        refine lv_aload_n hx hb dX7_minute_179 rfl (lv_at hl 2 rfl) ?_
                        refine gF S hK hP i7 e_M rfl 35 (by decide) k59 f_M_comerSort dX7_minute_180 ?_
                        refine lv_aload_n hx hb dX7_minute_183 rfl (lv_at hl 2 rfl) ?_
                        refine gF S hK hP i7 e_M rfl 32 (by decide) k164 f_M_comers dX7_minute_184 ?_
                        refine lv_iload_n hx hb dX7_minute_187 rfl (lv_at hl 4 rfl) ?_
                        obtain ⟨hb_180, hF⟩ := hF
                        refine stA S hK had hP hS (k := 49) rfl hb_180 dX7_minute_188 (fun M_179 H locs eM_179 hP hS => ?_)
                        have hF := hF M_179 eM_179
                        refine lv_aload_n hx hb dX7_minute_189 rfl (lv_at hl 2 rfl) ?_
                        refine gF S hK hP i7 e_M rfl 36 (by decide) k62 f_M_comerKind dX7_minute_190 ?_
                        refine lv_aload_n hx hb dX7_minute_193 rfl (lv_at hl 2 rfl) ?_
                        refine gF S hK hP i7 e_M rfl 32 (by decide) k164 f_M_comers dX7_minute_194 ?_
                        refine lv_iload hx hb dX7_minute_197 (lv_at hl 0 rfl) ?_
                        refine lv_if_eq (tgt := 206) hx hb dX7_minute_199 (by decide) (fun c_181 => absurd c_181 (by decide)) (fun _ => ?_)
                        refine lv_iconst (v := 1) hx hb dX7_minute_202 (by decide) ?_
                        refine lv_goto (tgt := 207) hx hb dX7_minute_203 (by decide) ?_
                        obtain ⟨hb_183, hF⟩ := hF
                        refine stA S hK had hP hS (k := 50) rfl hb_183 dX7_minute_207 (fun M_182 H locs eM_182 hP hS => ?_)
                        have hF := hF M_182 eM_182
                        refine lv_aload_n hx hb dX7_minute_208 rfl (lv_at hl 2 rfl) ?_
                        refine gF S hK hP i7 e_M rfl 37 (by decide) k65 f_M_waited dX7_minute_209 ?_
                        refine lv_aload_n hx hb dX7_minute_212 rfl (lv_at hl 2 rfl) ?_
                        refine gF S hK hP i7 e_M rfl 32 (by decide) k164 f_M_comers dX7_minute_213 ?_
                        refine lv_iconst (v := 0) hx hb dX7_minute_216 (by decide) ?_
                        obtain ⟨hb_185, hF⟩ := hF
                        refine stA S hK had hP hS (k := 51) rfl hb_185 dX7_minute_217 (fun M_184 H locs eM_184 hP hS => ?_)
                        have hF := hF M_184 eM_184
                        refine lv_aload_n hx hb dX7_minute_218 rfl (lv_at hl 2 rfl) ?_
                        refine gF S hK hP i7 e_M rfl 38 (by decide) k68 f_M_came dX7_minute_219 ?_
                        refine lv_aload_n hx hb dX7_minute_222 rfl (lv_at hl 2 rfl) ?_
                        refine gF S hK hP i7 e_M rfl 32 (by decide) k164 f_M_comers dX7_minute_223 ?_
                        refine lv_aload_n hx hb dX7_minute_226 rfl (lv_at hl 2 rfl) ?_
                        refine gF S hK hP i7 e_M rfl 33 (by decide) k167 f_M_minutes dX7_minute_227 ?_
                        obtain ⟨hb_187, hF⟩ := hF
                        refine stA S hK had hP hS (k := 52) rfl hb_187 dX7_minute_230 (fun M_186 H locs eM_186 hP hS => ?_)
                        have hF := hF M_186 eM_186
                        refine lv_aload_n hx hb dX7_minute_231 rfl (lv_at hl 2 rfl) ?_
                        refine gF S hK hP i7 e_M rfl 39 (by decide) k71 f_M_gone dX7_minute_232 ?_
                        refine lv_aload_n hx hb dX7_minute_235 rfl (lv_at hl 2 rfl) ?_
                        refine gF S hK hP i7 e_M rfl 32 (by decide) k164 f_M_comers dX7_minute_236 ?_
                        refine lv_bipush (v := -9) hx hb dX7_minute_239 (by decide) ?_
                        obtain ⟨hb_189, hF⟩ := hF
                        refine stA S hK had hP hS (k := 53) rfl hb_189 dX7_minute_241 (fun M_188 H locs eM_188 hP hS => ?_)
                        have hF := hF M_188 eM_188
                        refine lv_aload_n hx hb dX7_minute_242 rfl (lv_at hl 2 rfl) ?_
                        refine lv_dup hx hb dX7_minute_243 rfl ?_
                        refine gF S hK hP i7 e_M rfl 32 (by decide) k164 f_M_comers dX7_minute_244 ?_
                        refine lv_iconst (v := 1) hx hb dX7_minute_247 (by decide) ?_
                        refine lv_iadd hx hb dX7_minute_248 ?_
                        refine pF S hK had hP hS i7 tyX7_ok nmX7 e_M rfl 32 (by decide) k164 rfl rfl rfl (Nat.lt_of_lt_of_eq (by decide) len_M.symm) s_M_comers dX7_minute_249 (fun M_190 H locs eM_190 hP hS => ?_)
                        have hF := hF M_190 eM_190
                        refine lv_iload hx hb dX7_minute_252 (lv_at hl 1 rfl) ?_
                        refine lv_iload hx hb dX7_minute_254 (lv_at hl 0 rfl) ?_
                        refine lv_if_eq (tgt := 263) hx hb dX7_minute_256 (by decide) (fun c_191 => absurd c_191 (by decide)) (fun _ => ?_)
                        refine lv_iconst (v := 2) hx hb dX7_minute_259 (by decide) ?_
                        refine lv_goto (tgt := 264) hx hb dX7_minute_260 (by decide) ?_
                        refine lv_iadd hx hb dX7_minute_264 ?_
                        refine lv_istore (lv' := [(5, .int ((0 : Int32) + (2 : Int32))), (6, .int (1 : Int32)), (0, .ref (ad 32)), (1, .int a1), (3, .int r_6), (4, .int r_123)]) hx hb dX7_minute_265 hl (by decide) rfl (fun ls hl => ?_)
                        refine lv_aload_n hx hb dX7_minute_267 rfl (lv_at hl 2 rfl) ?_
                        refine lv_dup hx hb dX7_minute_268 rfl ?_
                        refine gF S hK hP i7 e_M rfl 33 (by decide) k167 f_M_minutes dX7_minute_269 ?_
                        refine lv_iconst (v := 1) hx hb dX7_minute_272 (by decide) ?_
                        refine lv_iadd hx hb dX7_minute_273 ?_
                        refine pF S hK had hP hS i7 tyX7_ok nmX7 e_M rfl 33 (by decide) k167 rfl rfl rfl (Nat.lt_of_lt_of_eq (by decide) len_M.symm) s_M_minutes dX7_minute_274 (fun M_192 H locs eM_192 hP hS => ?_)
                        have hF := hF M_192 eM_192
                        refine lv_iload hx hb dX7_minute_277 (lv_at hl 0 rfl) ?_
                        exact retI S hr hlocks hP hS hF dX7_minute_279
                  · have hF := hF.2 c_159
                    refine lv_aload_n hx hb dX7_minute_125 rfl (lv_at hl 1 rfl) ?_
                    refine gF S hK hP i7 e_M rfl 36 (by decide) k62 f_M_comerKind dX7_minute_126 ?_
                    refine lv_iload hx hb dX7_minute_129 (lv_at hl 4 rfl) ?_
                    refine lv_iconst (v := 2) hx hb dX7_minute_131 (by decide) ?_
                    obtain ⟨hb_194, hF⟩ := hF
                    refine stA S hK had hP hS (k := 50) rfl hb_194 dX7_minute_132 (fun M_193 H locs eM_193 hP hS => ?_)
                    have hF := hF M_193 eM_193
                    refine lv_aload_n hx hb dX7_minute_133 rfl (lv_at hl 1 rfl) ?_
                    refine gF S hK hP i7 e_M rfl 39 (by decide) k71 f_M_gone dX7_minute_134 ?_
                    refine lv_iload hx hb dX7_minute_137 (lv_at hl 4 rfl) ?_
                    refine lv_aload_n hx hb dX7_minute_139 rfl (lv_at hl 1 rfl) ?_
                    refine gF S hK hP i7 e_M rfl 33 (by decide) k167 f_M_minutes dX7_minute_140 ?_
                    obtain ⟨hb_196, hF⟩ := hF
                    refine stA S hK had hP hS (k := 53) rfl hb_196 dX7_minute_143 (fun M_195 H locs eM_195 hP hS => ?_)
                    have hF := hF M_195 eM_195
                    refine lv_bipush (v := 100) hx hb dX7_minute_144 (by decide) ?_
                    refine lv_iload hx hb dX7_minute_146 (lv_at hl 4 rfl) ?_
                    refine lv_iconst (v := 1) hx hb dX7_minute_148 (by decide) ?_
                    refine lv_iadd hx hb dX7_minute_149 ?_
                    refine lv_imul hx hb dX7_minute_150 ?_
                    refine lv_istore (lv' := [(5, .int ((100 : Int32) * (r_123 + (1 : Int32)))), (0, .ref (ad 32)), (1, .int a1), (3, .int r_6), (4, .int r_123)]) hx hb dX7_minute_151 hl (by decide) rfl (fun ls hl => ?_)
                    refine lv_iload_n hx hb dX7_minute_153 rfl (lv_at hl 3 rfl) ?_
                    refine lv_bipush (v := -9) hx hb dX7_minute_154 (by decide) ?_
                    refine lv_icmp_eq (tgt := 267) hx hb dX7_minute_156 (by decide) (fun c_197 => ?_) (fun c_197 => ?_)
                    · have hF := hF.1 c_197
                      refine lv_aload_n hx hb dX7_minute_267 rfl (lv_at hl 1 rfl) ?_
                      refine lv_dup hx hb dX7_minute_268 rfl ?_
                      refine gF S hK hP i7 e_M rfl 33 (by decide) k167 f_M_minutes dX7_minute_269 ?_
                      refine lv_iconst (v := 1) hx hb dX7_minute_272 (by decide) ?_
                      refine lv_iadd hx hb dX7_minute_273 ?_
                      refine pF S hK had hP hS i7 tyX7_ok nmX7 e_M rfl 33 (by decide) k167 rfl rfl rfl (Nat.lt_of_lt_of_eq (by decide) len_M.symm) s_M_minutes dX7_minute_274 (fun M_198 H locs eM_198 hP hS => ?_)
                      have hF := hF M_198 eM_198
                      refine lv_iload hx hb dX7_minute_277 (lv_at hl 0 rfl) ?_
                      exact retI S hr hlocks hP hS hF dX7_minute_279
                    · have hF := hF.2 c_197
                      refine lv_aload_n hx hb dX7_minute_159 rfl (lv_at hl 1 rfl) ?_
                      refine goI (rV (rest := []) S hK hP (ctX7_standing l D cI cJ ad had  _ _ hF) (cwV 0 hts gX7_minute_X7_standing rfl rfl rfl hdV_X7_standing ⟨Nat.le_of_ble_eq_true rfl, Nat.le_of_ble_eq_true rfl⟩) e_M rfl rfl hl.1 rfl (Nat.le_of_ble_eq_true rfl) dX7_minute_160 ⟨Nat.zero_le _, Nat.zero_le _⟩) hS (fun _ h => h) (fun r_199 M_199 H locs hP hS hF => ?_)
                      refine lv_aload_n hx hb dX7_minute_163 rfl (lv_at hl 1 rfl) ?_
                      refine gF S hK hP i7 e_M rfl 13 (by decide) k25 f_M_bars dX7_minute_164 ?_
                      refine lv_iload_n hx hb dX7_minute_167 rfl (lv_at hl 3 rfl) ?_
                      obtain ⟨hb_200, hF⟩ := hF
                      refine ldA S hK hP (k := 38) rfl hb_200 dX7_minute_168 ?_
                      refine lv_icmp_ge (tgt := 176) hx hb dX7_minute_169 (by decide) (fun c_201 => ?_) (fun c_201 => ?_)
                      · have hF := hF.1 c_201
                        refine lv_iconst (v := 0) hx hb dX7_minute_176 (by decide) ?_
                        refine lv_istore (lv' := [(6, .int (0 : Int32)), (5, .int ((100 : Int32) * (r_123 + (1 : Int32)))), (0, .ref (ad 32)), (1, .int a1), (3, .int r_6), (4, .int r_123)]) hx hb dX7_minute_177 hl (by decide) rfl (fun ls hl => ?_)
                        refine lv_aload_n hx hb dX7_minute_179 rfl (lv_at hl 2 rfl) ?_
                        refine gF S hK hP i7 e_M rfl 35 (by decide) k59 f_M_comerSort dX7_minute_180 ?_
                        refine lv_aload_n hx hb dX7_minute_183 rfl (lv_at hl 2 rfl) ?_
                        refine gF S hK hP i7 e_M rfl 32 (by decide) k164 f_M_comers dX7_minute_184 ?_
                        refine lv_iload_n hx hb dX7_minute_187 rfl (lv_at hl 4 rfl) ?_
                        obtain ⟨hb_203, hF⟩ := hF
                        refine stA S hK had hP hS (k := 49) rfl hb_203 dX7_minute_188 (fun M_202 H locs eM_202 hP hS => ?_)
                        have hF := hF M_202 eM_202
                        refine lv_aload_n hx hb dX7_minute_189 rfl (lv_at hl 2 rfl) ?_
                        refine gF S hK hP i7 e_M rfl 36 (by decide) k62 f_M_comerKind dX7_minute_190 ?_
                        refine lv_aload_n hx hb dX7_minute_193 rfl (lv_at hl 2 rfl) ?_
                        refine gF S hK hP i7 e_M rfl 32 (by decide) k164 f_M_comers dX7_minute_194 ?_
                        refine lv_iload hx hb dX7_minute_197 (lv_at hl 0 rfl) ?_
                        refine lv_if_eq (tgt := 206) hx hb dX7_minute_199 (by decide) (fun _ => ?_) (fun c_204 => absurd (by decide) c_204)
                        refine lv_iconst (v := 0) hx hb dX7_minute_206 (by decide) ?_
                        obtain ⟨hb_206, hF⟩ := hF
                        refine stA S hK had hP hS (k := 50) rfl hb_206 dX7_minute_207 (fun M_205 H locs eM_205 hP hS => ?_)
                        have hF := hF M_205 eM_205
                        refine lv_aload_n hx hb dX7_minute_208 rfl (lv_at hl 2 rfl) ?_
                        refine gF S hK hP i7 e_M rfl 37 (by decide) k65 f_M_waited dX7_minute_209 ?_
                        refine lv_aload_n hx hb dX7_minute_212 rfl (lv_at hl 2 rfl) ?_
                        refine gF S hK hP i7 e_M rfl 32 (by decide) k164 f_M_comers dX7_minute_213 ?_
                        refine lv_iconst (v := 0) hx hb dX7_minute_216 (by decide) ?_
                        obtain ⟨hb_208, hF⟩ := hF
                        refine stA S hK had hP hS (k := 51) rfl hb_208 dX7_minute_217 (fun M_207 H locs eM_207 hP hS => ?_)
                        have hF := hF M_207 eM_207
                        refine lv_aload_n hx hb dX7_minute_218 rfl (lv_at hl 2 rfl) ?_
                        refine gF S hK hP i7 e_M rfl 38 (by decide) k68 f_M_came dX7_minute_219 ?_
                        refine lv_aload_n hx hb dX7_minute_222 rfl (lv_at hl 2 rfl) ?_
                        refine gF S hK hP i7 e_M rfl 32 (by decide) k164 f_M_comers dX7_minute_223 ?_
                        refine lv_aload_n hx hb dX7_minute_226 rfl (lv_at hl 2 rfl) ?_
                        refine gF S hK hP i7 e_M rfl 33 (by decide) k167 f_M_minutes dX7_minute_227 ?_
                        obtain ⟨hb_210, hF⟩ := hF
                        refine stA S hK had hP hS (k := 52) rfl hb_210 dX7_minute_230 (fun M_209 H locs eM_209 hP hS => ?_)
                        have hF := hF M_209 eM_209
                        refine lv_aload_n hx hb dX7_minute_231 rfl (lv_at hl 2 rfl) ?_
                        refine gF S hK hP i7 e_M rfl 39 (by decide) k71 f_M_gone dX7_minute_232 ?_
                        refine lv_aload_n hx hb dX7_minute_235 rfl (lv_at hl 2 rfl) ?_
                        refine gF S hK hP i7 e_M rfl 32 (by decide) k164 f_M_comers dX7_minute_236 ?_
                        refine lv_bipush (v := -9) hx hb dX7_minute_239 (by decide) ?_
                        obtain ⟨hb_212, hF⟩ := hF
                        refine stA S hK had hP hS (k := 53) rfl hb_212 dX7_minute_241 (fun M_211 H locs eM_211 hP hS => ?_)
                        have hF := hF M_211 eM_211
                        refine lv_aload_n hx hb dX7_minute_242 rfl (lv_at hl 2 rfl) ?_
                        refine lv_dup hx hb dX7_minute_243 rfl ?_
                        refine gF S hK hP i7 e_M rfl 32 (by decide) k164 f_M_comers dX7_minute_244 ?_
                        refine lv_iconst (v := 1) hx hb dX7_minute_247 (by decide) ?_
                        refine lv_iadd hx hb dX7_minute_248 ?_
                        refine pF S hK had hP hS i7 tyX7_ok nmX7 e_M rfl 32 (by decide) k164 rfl rfl rfl (Nat.lt_of_lt_of_eq (by decide) len_M.symm) s_M_comers dX7_minute_249 (fun M_213 H locs eM_213 hP hS => ?_)
                        have hF := hF M_213 eM_213
                        refine lv_iload hx hb dX7_minute_252 (lv_at hl 1 rfl) ?_
                        refine lv_iload hx hb dX7_minute_254 (lv_at hl 0 rfl) ?_
                        refine lv_if_eq (tgt := 263) hx hb dX7_minute_256 (by decide) (fun _ => ?_) (fun c_214 => absurd (by decide) c_214)
                        refine lv_iconst (v := 1) hx hb dX7_minute_263 (by decide) ?_
                        refine lv_iadd hx hb dX7_minute_264 ?_
                        refine lv_istore (lv' := [(5, .int (((100 : Int32) * (r_123 + (1 : Int32))) + (1 : Int32))), (6, .int (0 : Int32)), (0, .ref (ad 32)), (1, .int a1), (3, .int r_6), (4, .int r_123)]) hx hb dX7_minute_265 hl (by decide) rfl (fun ls hl => ?_)
                        refine lv_aload_n hx hb dX7_minute_267 rfl (lv_at hl 2 rfl) ?_
                        refine lv_dup hx hb dX7_minute_268 rfl ?_
                        refine gF S hK hP i7 e_M rfl 33 (by decide) k167 f_M_minutes dX7_minute_269 ?_
                        refine lv_iconst (v := 1) hx hb dX7_minute_272 (by decide) ?_
                        refine lv_iadd hx hb dX7_minute_273 ?_
                        refine pF S hK had hP hS i7 tyX7_ok nmX7 e_M rfl 33 (by decide) k167 rfl rfl rfl (Nat.lt_of_lt_of_eq (by decide) len_M.symm) s_M_minutes dX7_minute_274 (fun M_215 H locs eM_215 hP hS => ?_)
                        have hF := hF M_215 eM_215
                        refine lv_iload hx hb dX7_minute_277 (lv_at hl 0 rfl) ?_
                        exact retI S hr hlocks hP hS hF dX7_minute_279
                      · have hF := hF.2 c_201
                        refine lv_iconst (v := 1) hx hb dX7_minute_172 (by decide) ?_
                        refine lv_goto (tgt := 177) hx hb dX7_minute_173 (by decide) ?_
                        refine lv_istore (lv' := [(6, .int (1 : Int32)), (5, .int ((100 : Int32) * (r_123 + (1 : Int32)))), (0, .ref (ad 32)), (1, .int a1), (3, .int r_6), (4, .int r_123)]) hx hb dX7_minute_177 hl (by decide) rfl (fun ls hl => ?_)
                        refine lv_aload_n hx hb dX7_minute_179 rfl (lv_at hl 2 rfl) ?_
                        refine gF S hK hP i7 e_M rfl 35 (by decide) k59 f_M_comerSort dX7_minute_180 ?_
                        refine lv_aload_n hx hb dX7_minute_183 rfl (lv_at hl 2 rfl) ?_
                        refine gF S hK hP i7 e_M rfl 32 (by decide) k164 f_M_comers dX7_minute_184 ?_
                        refine lv_iload_n hx hb dX7_minute_187 rfl (lv_at hl 4 rfl) ?_
                        obtain ⟨hb_217, hF⟩ := hF
                        refine stA S hK had hP hS (k := 49) rfl hb_217 dX7_minute_188 (fun M_216 H locs eM_216 hP hS => ?_)
                        have hF := hF M_216 eM_216
                        refine lv_aload_n hx hb dX7_minute_189 rfl (lv_at hl 2 rfl) ?_
                        refine gF S hK hP i7 e_M rfl 36 (by decide) k62 f_M_comerKind dX7_minute_190 ?_
                        refine lv_aload_n hx hb dX7_minute_193 rfl (lv_at hl 2 rfl) ?_
                        refine gF S hK hP i7 e_M rfl 32 (by decide) k164 f_M_comers dX7_minute_194 ?_
                        refine lv_iload hx hb dX7_minute_197 (lv_at hl 0 rfl) ?_
                        refine lv_if_eq (tgt := 206) hx hb dX7_minute_199 (by decide) (fun c_218 => absurd c_218 (by decide)) (fun _ => ?_)
                        refine lv_iconst (v := 1) hx hb dX7_minute_202 (by decide) ?_
                        refine lv_goto (tgt := 207) hx hb dX7_minute_203 (by decide) ?_
                        obtain ⟨hb_220, hF⟩ := hF
                        refine stA S hK had hP hS (k := 50) rfl hb_220 dX7_minute_207 (fun M_219 H locs eM_219 hP hS => ?_)
                        have hF := hF M_219 eM_219
                        refine lv_aload_n hx hb dX7_minute_208 rfl (lv_at hl 2 rfl) ?_
                        refine gF S hK hP i7 e_M rfl 37 (by decide) k65 f_M_waited dX7_minute_209 ?_
                        refine lv_aload_n hx hb dX7_minute_212 rfl (lv_at hl 2 rfl) ?_
                        refine gF S hK hP i7 e_M rfl 32 (by decide) k164 f_M_comers dX7_minute_213 ?_
                        refine lv_iconst (v := 0) hx hb dX7_minute_216 (by decide) ?_
                        obtain ⟨hb_222, hF⟩ := hF
                        refine stA S hK had hP hS (k := 51) rfl hb_222 dX7_minute_217 (fun M_221 H locs eM_221 hP hS => ?_)
                        have hF := hF M_221 eM_221
                        refine lv_aload_n hx hb dX7_minute_218 rfl (lv_at hl 2 rfl) ?_
                        refine gF S hK hP i7 e_M rfl 38 (by decide) k68 f_M_came dX7_minute_219 ?_
                        refine lv_aload_n hx hb dX7_minute_222 rfl (lv_at hl 2 rfl) ?_
                        refine gF S hK hP i7 e_M rfl 32 (by decide) k164 f_M_comers dX7_minute_223 ?_
                        refine lv_aload_n hx hb dX7_minute_226 rfl (lv_at hl 2 rfl) ?_
                        refine gF S hK hP i7 e_M rfl 33 (by decide) k167 f_M_minutes dX7_minute_227 ?_
                        obtain ⟨hb_224, hF⟩ := hF
                        refine stA S hK had hP hS (k := 52) rfl hb_224 dX7_minute_230 (fun M_223 H locs eM_223 hP hS => ?_)
                        have hF := hF M_223 eM_223
                        refine lv_aload_n hx hb dX7_minute_231 rfl (lv_at hl 2 rfl) ?_
                        refine gF S hK hP i7 e_M rfl 39 (by decide) k71 f_M_gone dX7_minute_232 ?_
                        refine lv_aload_n hx hb dX7_minute_235 rfl (lv_at hl 2 rfl) ?_
                        refine gF S hK hP i7 e_M rfl 32 (by decide) k164 f_M_comers dX7_minute_236 ?_
                        refine lv_bipush (v := -9) hx hb dX7_minute_239 (by decide) ?_
                        obtain ⟨hb_226, hF⟩ := hF
                        refine stA S hK had hP hS (k := 53) rfl hb_226 dX7_minute_241 (fun M_225 H locs eM_225 hP hS => ?_)
                        have hF := hF M_225 eM_225
                        refine lv_aload_n hx hb dX7_minute_242 rfl (lv_at hl 2 rfl) ?_
                        refine lv_dup hx hb dX7_minute_243 rfl ?_
                        refine gF S hK hP i7 e_M rfl 32 (by decide) k164 f_M_comers dX7_minute_244 ?_
                        refine lv_iconst (v := 1) hx hb dX7_minute_247 (by decide) ?_
                        refine lv_iadd hx hb dX7_minute_248 ?_
                        refine pF S hK had hP hS i7 tyX7_ok nmX7 e_M rfl 32 (by decide) k164 rfl rfl rfl (Nat.lt_of_lt_of_eq (by decide) len_M.symm) s_M_comers dX7_minute_249 (fun M_227 H locs eM_227 hP hS => ?_)
                        have hF := hF M_227 eM_227
                        refine lv_iload hx hb dX7_minute_252 (lv_at hl 1 rfl) ?_
                        refine lv_iload hx hb dX7_minute_254 (lv_at hl 0 rfl) ?_
                        refine lv_if_eq (tgt := 263) hx hb dX7_minute_256 (by decide) (fun c_228 => absurd c_228 (by decide)) (fun _ => ?_)
                        refine lv_iconst (v := 2) hx hb dX7_minute_259 (by decide) ?_
                        refine lv_goto (tgt := 264) hx hb dX7_minute_260 (by decide) ?_
                        refine lv_iadd hx hb dX7_minute_264 ?_
                        refine lv_istore (lv' := [(5, .int (((100 : Int32) * (r_123 + (1 : Int32))) + (2 : Int32))), (6, .int (1 : Int32)), (0, .ref (ad 32)), (1, .int a1), (3, .int r_6), (4, .int r_123)]) hx hb dX7_minute_265 hl (by decide) rfl (fun ls hl => ?_)
                        refine lv_aload_n hx hb dX7_minute_267 rfl (lv_at hl 2 rfl) ?_
                        refine lv_dup hx hb dX7_minute_268 rfl ?_
                        refine gF S hK hP i7 e_M rfl 33 (by decide) k167 f_M_minutes dX7_minute_269 ?_
                        refine lv_iconst (v := 1) hx hb dX7_minute_272 (by decide) ?_
                        refine lv_iadd hx hb dX7_minute_273 ?_
                        refine pF S hK had hP hS i7 tyX7_ok nmX7 e_M rfl 33 (by decide) k167 rfl rfl rfl (Nat.lt_of_lt_of_eq (by decide) len_M.symm) s_M_minutes dX7_minute_274 (fun M_229 H locs eM_229 hP hS => ?_)
                        have hF := hF M_229 eM_229
                        refine lv_iload hx hb dX7_minute_277 (lv_at hl 0 rfl) ?_
                        exact retI S hr hlocks hP hS hF dX7_minute_279
              · have hF := hF.2 c_124
                refine lv_aload_n hx hb dX7_minute_75 rfl (lv_at hl 0 rfl) ?_
                refine gF S hK hP i7 e_M rfl 37 (by decide) k65 f_M_waited dX7_minute_76 ?_
                refine lv_iload hx hb dX7_minute_79 (lv_at hl 4 rfl) ?_
                refine lv_dup2_11 hx hb dX7_minute_81 rfl rfl ?_
                obtain ⟨hb_230, hF⟩ := hF
                refine ldA S hK hP (k := 51) rfl hb_230 dX7_minute_82 ?_
                refine lv_aload_n hx hb dX7_minute_83 rfl (lv_at hl 0 rfl) ?_
                refine gF S hK hP i7 e_M rfl 36 (by decide) k62 f_M_comerKind dX7_minute_84 ?_
                refine lv_iload hx hb dX7_minute_87 (lv_at hl 4 rfl) ?_
                obtain ⟨hb_231, hF⟩ := hF
                refine ldA S hK hP (k := 50) rfl hb_231 dX7_minute_89 ?_
                refine lv_iconst (v := 1) hx hb dX7_minute_90 (by decide) ?_
                refine lv_icmp_ne (tgt := 98) hx hb dX7_minute_91 (by decide) (fun c_232 => ?_) (fun c_232 => ?_)
                · have hF := hF.2 c_232
                  refine lv_iconst (v := 0) hx hb dX7_minute_98 (by decide) ?_
                  refine lv_iadd hx hb dX7_minute_99 ?_
                  obtain ⟨hb_234, hF⟩ := hF
                  refine stA S hK had hP hS (k := 51) rfl hb_234 dX7_minute_100 (fun M_233 H locs eM_233 hP hS => ?_)
                  have hF := hF M_233 eM_233
                  refine lv_iinc (v := (x5_66 + 1)) (lv' := [(5, .int (x5_66 + 1)), (0, .ref (ad 32)), (1, .int a1), (3, .int r_6), (4, .int r_123)]) hx hb dX7_minute_101 hl (k := 4) rfl rfl (by decide) rfl (fun ls hl => ?_)
                  refine lv_goto (tgt := 66) hx hb dX7_minute_104 (by decide) ?_
                  exact hJ_66 _ _ hF _ _ _ hP hS (lv_sub hl [1, 2, 3, 4, 0] rfl)
                · have hF := hF.1 c_232
                  refine lv_iconst (v := 1) hx hb dX7_minute_94 (by decide) ?_
                  refine lv_goto (tgt := 99) hx hb dX7_minute_95 (by decide) ?_
                  refine lv_iadd hx hb dX7_minute_99 ?_
                  obtain ⟨hb_236, hF⟩ := hF
                  refine stA S hK had hP hS (k := 51) rfl hb_236 dX7_minute_100 (fun M_235 H locs eM_235 hP hS => ?_)
                  have hF := hF M_235 eM_235
                  refine lv_iinc (v := (x5_66 + 1)) (lv' := [(5, .int (x5_66 + 1)), (0, .ref (ad 32)), (1, .int a1), (3, .int r_6), (4, .int r_123)]) hx hb dX7_minute_101 hl (k := 4) rfl rfl (by decide) rfl (fun ls hl => ?_)
                  refine lv_goto (tgt := 66) hx hb dX7_minute_104 (by decide) ?_
                  exact hJ_66 _ _ hF _ _ _ hP hS (lv_sub hl [1, 2, 3, 4, 0] rfl)
            exact key_66 _ _ hF _ _ _ hP hS (lv_sub hl [3, 4, 2, 1, 0] rfl)
          · have hF := hF.1 c_122
            refine lv_bipush (v := -4) hx hb dX7_minute_54 (by decide) ?_
            exact retI S hr hlocks hP hS hF dX7_minute_56
      · have hF := hF.1 c_5
        refine lv_bipush (v := -3) hx hb dX7_minute_30 (by decide) ?_
        exact retI S hr hlocks hP hS hF dX7_minute_32
    · have hF := hF.1 c_4
      refine lv_bipush (v := -2) hx hb dX7_minute_20 (by decide) ?_
      exact retI S hr hlocks hP hS hF dX7_minute_22
def wX7_isComer (a1 : Int32) (Q : Int32 → Mm → Prop) (M : Mm) : Prop := ((a1 < 0 → (Q (0 : Int32) M)) ∧ (¬ a1 < 0 → (((gi M 40) ≤ a1 → (Q (0 : Int32) M)) ∧ (¬ (gi M 40) ≤ a1 → (Q (1 : Int32) M)))))
set_option maxHeartbeats 4000000 in
set_option maxRecDepth 100000 in
theorem ctX7_isComer (l : Launch) (D : va_G) (cI cJ : ClassId) (ad : Nat → Nat) (had : inj54 ad) (a1 : Int32) (Q : Int32 → Mm → Prop) (M : Mm) (hF : wX7_isComer a1 Q M) : Met l yX7_isComer wsX7_isComer ({ frames := 0, cells := 0, slots := 0, locals := 0 } : Room) (PcW D cI cJ ad M [.ref (ad 32), .int a1]) (QzW D cI cJ ad Q) 0 0 (Fr ad) := by
  refine entW (y := yX7_isComer) (ret := some .boolean) (maxL := 2) (plainFor_of_name (by decide)) rfl (Nat.le_of_ble_eq_true rfl) ?_
  intro p e s m args below meth c ls S hK hr hlocks hP hS hl
  have hx := S.1
  have hb := S.2.1
  have hown := S.2.2.2.1
  have hts := S.2.2.2.2
  have i7 : ∀ w ∈ wsX70, w ∈ wsX7_isComer := by decide +kernel
  have k164 := hts (.fieldLink RX7 164 "RopeLineModel" "comers" "I") (by decide +kernel)
  have hl : lv_has ls 2 [(0, .ref (ad 32)), (1, .int a1)] := hl
  unfold wX7_isComer at hF
  refine lv_iload_n hx hb dX7_isComer_0 rfl (lv_at hl 1 rfl) ?_
  refine lv_if_lt (tgt := 16) hx hb dX7_isComer_1 (by decide) (fun c_1 => ?_) (fun c_1 => ?_)
  · have hF := hF.1 c_1
    refine lv_iconst (v := 0) hx hb dX7_isComer_16 (by decide) ?_
    exact retZ S hr hlocks hP hS rfl hF dX7_isComer_17
  · have hF := hF.2 c_1
    refine lv_iload_n hx hb dX7_isComer_4 rfl (lv_at hl 1 rfl) ?_
    refine lv_aload_n hx hb dX7_isComer_5 rfl (lv_at hl 0 rfl) ?_
    refine gF S hK hP i7 e_M rfl 32 (by decide) k164 f_M_comers dX7_isComer_6 ?_
    refine lv_icmp_ge (tgt := 16) hx hb dX7_isComer_9 (by decide) (fun c_2 => ?_) (fun c_2 => ?_)
    · have hF := hF.1 c_2
      refine lv_iconst (v := 0) hx hb dX7_isComer_16 (by decide) ?_
      exact retZ S hr hlocks hP hS rfl hF dX7_isComer_17
    · have hF := hF.2 c_2
      refine lv_iconst (v := 1) hx hb dX7_isComer_12 (by decide) ?_
      refine lv_goto (tgt := 17) hx hb dX7_isComer_13 (by decide) ?_
      exact retZ S hr hlocks hP hS rfl hF dX7_isComer_17
def wX7_ofComer (a1 : Int32) (a2 : Int32) (Q : Int32 → Mm → Prop) (M : Mm) : Prop := (wX7_isComer a1 (fun r_1 M_1 => ((r_1 = 0 → (Q (-1 : Int32) M_1)) ∧ (¬ r_1 = 0 → ((a2 = 0 → (vp_in a1 40 ∧ (Q (ga M_1 50 a1.toNatClampNeg) M_1))) ∧ (¬ a2 = 0 → ((a2 = 1 → (vp_in a1 40 ∧ (Q (ga M_1 49 a1.toNatClampNeg) M_1))) ∧ (¬ a2 = 1 → ((a2 = 2 → (vp_in a1 40 ∧ (Q (ga M_1 51 a1.toNatClampNeg) M_1))) ∧ (¬ a2 = 2 → ((a2 = 3 → (vp_in a1 40 ∧ (Q (ga M_1 52 a1.toNatClampNeg) M_1))) ∧ (¬ a2 = 3 → ((a2 = 4 → (vp_in a1 40 ∧ (Q (ga M_1 53 a1.toNatClampNeg) M_1))) ∧ (¬ a2 = 4 → ((a2 = 5 → (vp_in a1 40 ∧ (((ga M_1 50 a1.toNatClampNeg) = (2 : Int32) → (vp_in a1 40 ∧ (vp_in (ga M_1 49 a1.toNatClampNeg) 3 ∧ (vp_in a1 40 ∧ (Q ((ga M_1 37 (ga M_1 49 a1.toNatClampNeg).toNatClampNeg) - ((gi M_1 30) * (ga M_1 51 a1.toNatClampNeg))) M_1))))) ∧ (¬ (ga M_1 50 a1.toNatClampNeg) = (2 : Int32) → (Q (0 : Int32) M_1))))) ∧ (¬ a2 = 5 → (Q (-2 : Int32) M_1)))))))))))))))) M)
set_option maxHeartbeats 4000000 in
set_option maxRecDepth 100000 in
theorem ctX7_ofComer (l : Launch) (D : va_G) (cI cJ : ClassId) (ad : Nat → Nat) (had : inj54 ad) (a1 : Int32) (a2 : Int32) (Q : Int32 → Mm → Prop) (M : Mm) (hF : wX7_ofComer a1 a2 Q M) : Met l yX7_ofComer wsX7_ofComer ({ frames := 1, cells := 0, slots := 0, locals := 21 } : Room) (PcW D cI cJ ad M [.ref (ad 32), .int a1, .int a2]) (QiW D cI cJ ad Q) 0 0 (Fr ad) := by
  refine entW (y := yX7_ofComer) (ret := some .int) (maxL := 3) (plainFor_of_name (by decide)) rfl (Nat.le_of_ble_eq_true rfl) ?_
  intro p e s m args below meth c ls S hK hr hlocks hP hS hl
  have hx := S.1
  have hb := S.2.1
  have hown := S.2.2.2.1
  have hts := S.2.2.2.2
  have i7 : ∀ w ∈ wsX70, w ∈ wsX7_ofComer := by decide +kernel
  have k62 := hts (.fieldLink RX7 62 "RopeLineModel" "comerKind" "[I") (by decide +kernel)
  have k59 := hts (.fieldLink RX7 59 "RopeLineModel" "comerSort" "[I") (by decide +kernel)
  have k65 := hts (.fieldLink RX7 65 "RopeLineModel" "waited" "[I") (by decide +kernel)
  have k68 := hts (.fieldLink RX7 68 "RopeLineModel" "came" "[I") (by decide +kernel)
  have k71 := hts (.fieldLink RX7 71 "RopeLineModel" "gone" "[I") (by decide +kernel)
  have k22 := hts (.fieldLink RX7 22 "RopeLineModel" "worths" "[I") (by decide +kernel)
  have k149 := hts (.fieldLink RX7 149 "RopeLineModel" "cost" "I") (by decide +kernel)
  have hl : lv_has ls 3 [(0, .ref (ad 32)), (1, .int a1), (2, .int a2)] := hl
  unfold wX7_ofComer at hF
  refine lv_aload_n hx hb dX7_ofComer_0 rfl (lv_at hl 0 rfl) ?_
  refine lv_iload_n hx hb dX7_ofComer_1 rfl (lv_at hl 1 rfl) ?_
  refine goZ (rV (rest := []) S hK hP (ctX7_isComer l D cI cJ ad had a1 _ _ hF) (cwV 1 hts gX7_ofComer_X7_isComer rfl rfl rfl hdV_X7_isComer ⟨Nat.le_of_ble_eq_true rfl, Nat.le_of_ble_eq_true rfl⟩) e_M rfl rfl hl.1 rfl (Nat.le_of_ble_eq_true rfl) dX7_ofComer_2 ⟨Nat.zero_le _, Nat.zero_le _⟩) hS (fun _ h => h) (fun r_1 M_1 H locs hP hS hz_r_1 hF => ?_)
  refine lv_if_ne (tgt := 10) hx hb dX7_ofComer_5 (by decide) (fun c_2 => ?_) (fun c_2 => ?_)
  · have hF := hF.2 c_2
    refine lv_iload_n hx hb dX7_ofComer_10 rfl (lv_at hl 2 rfl) ?_
    by_cases c_3 : a2 = 0
    · have hF := hF.1 c_3
      refine lv_tableIn (off := 37) (tgt := 48) hx hb dX7_ofComer_11 (by rw [c_3]; decide) (by rw [c_3]; decide) (by rw [c_3]; rfl) (by decide) ?_
      refine lv_aload_n hx hb dX7_ofComer_48 rfl (lv_at hl 0 rfl) ?_
      refine gF S hK hP i7 e_M rfl 36 (by decide) k62 f_M_comerKind dX7_ofComer_49 ?_
      refine lv_iload_n hx hb dX7_ofComer_52 rfl (lv_at hl 1 rfl) ?_
      obtain ⟨hb_4, hF⟩ := hF
      refine ldA S hK hP (k := 50) rfl hb_4 dX7_ofComer_53 ?_
      exact retI S hr hlocks hP hS hF dX7_ofComer_54
    · have hF := hF.2 c_3
      by_cases c_5 : a2 = 1
      · have hF := hF.1 c_5
        refine lv_tableIn (off := 44) (tgt := 55) hx hb dX7_ofComer_11 (by rw [c_5]; decide) (by rw [c_5]; decide) (by rw [c_5]; rfl) (by decide) ?_
        refine lv_aload_n hx hb dX7_ofComer_55 rfl (lv_at hl 0 rfl) ?_
        refine gF S hK hP i7 e_M rfl 35 (by decide) k59 f_M_comerSort dX7_ofComer_56 ?_
        refine lv_iload_n hx hb dX7_ofComer_59 rfl (lv_at hl 1 rfl) ?_
        obtain ⟨hb_6, hF⟩ := hF
        refine ldA S hK hP (k := 49) rfl hb_6 dX7_ofComer_60 ?_
        exact retI S hr hlocks hP hS hF dX7_ofComer_61
      · have hF := hF.2 c_5
        by_cases c_7 : a2 = 2
        · have hF := hF.1 c_7
          refine lv_tableIn (off := 51) (tgt := 62) hx hb dX7_ofComer_11 (by rw [c_7]; decide) (by rw [c_7]; decide) (by rw [c_7]; rfl) (by decide) ?_
          refine lv_aload_n hx hb dX7_ofComer_62 rfl (lv_at hl 0 rfl) ?_
          refine gF S hK hP i7 e_M rfl 37 (by decide) k65 f_M_waited dX7_ofComer_63 ?_
          refine lv_iload_n hx hb dX7_ofComer_66 rfl (lv_at hl 1 rfl) ?_
          obtain ⟨hb_8, hF⟩ := hF
          refine ldA S hK hP (k := 51) rfl hb_8 dX7_ofComer_67 ?_
          exact retI S hr hlocks hP hS hF dX7_ofComer_68
        · have hF := hF.2 c_7
          by_cases c_9 : a2 = 3
          · have hF := hF.1 c_9
            refine lv_tableIn (off := 58) (tgt := 69) hx hb dX7_ofComer_11 (by rw [c_9]; decide) (by rw [c_9]; decide) (by rw [c_9]; rfl) (by decide) ?_
            refine lv_aload_n hx hb dX7_ofComer_69 rfl (lv_at hl 0 rfl) ?_
            refine gF S hK hP i7 e_M rfl 38 (by decide) k68 f_M_came dX7_ofComer_70 ?_
            refine lv_iload_n hx hb dX7_ofComer_73 rfl (lv_at hl 1 rfl) ?_
            obtain ⟨hb_10, hF⟩ := hF
            refine ldA S hK hP (k := 52) rfl hb_10 dX7_ofComer_74 ?_
            exact retI S hr hlocks hP hS hF dX7_ofComer_75
          · have hF := hF.2 c_9
            by_cases c_11 : a2 = 4
            · have hF := hF.1 c_11
              refine lv_tableIn (off := 65) (tgt := 76) hx hb dX7_ofComer_11 (by rw [c_11]; decide) (by rw [c_11]; decide) (by rw [c_11]; rfl) (by decide) ?_
              refine lv_aload_n hx hb dX7_ofComer_76 rfl (lv_at hl 0 rfl) ?_
              refine gF S hK hP i7 e_M rfl 39 (by decide) k71 f_M_gone dX7_ofComer_77 ?_
              refine lv_iload_n hx hb dX7_ofComer_80 rfl (lv_at hl 1 rfl) ?_
              obtain ⟨hb_12, hF⟩ := hF
              refine ldA S hK hP (k := 53) rfl hb_12 dX7_ofComer_81 ?_
              exact retI S hr hlocks hP hS hF dX7_ofComer_82
            · have hF := hF.2 c_11
              by_cases c_13 : a2 = 5
              · have hF := hF.1 c_13
                refine lv_tableIn (off := 72) (tgt := 83) hx hb dX7_ofComer_11 (by rw [c_13]; decide) (by rw [c_13]; decide) (by rw [c_13]; rfl) (by decide) ?_
                refine lv_aload_n hx hb dX7_ofComer_83 rfl (lv_at hl 0 rfl) ?_
                refine gF S hK hP i7 e_M rfl 36 (by decide) k62 f_M_comerKind dX7_ofComer_84 ?_
                refine lv_iload_n hx hb dX7_ofComer_87 rfl (lv_at hl 1 rfl) ?_
                obtain ⟨hb_14, hF⟩ := hF
                refine ldA S hK hP (k := 50) rfl hb_14 dX7_ofComer_88 ?_
                refine lv_iconst (v := 2) hx hb dX7_ofComer_89 (by decide) ?_
                refine lv_icmp_ne (tgt := 119) hx hb dX7_ofComer_90 (by decide) (fun c_15 => ?_) (fun c_15 => ?_)
                · have hF := hF.2 c_15
                  refine lv_iconst (v := 0) hx hb dX7_ofComer_119 (by decide) ?_
                  exact retI S hr hlocks hP hS hF dX7_ofComer_120
                · have hF := hF.1 c_15
                  refine lv_aload_n hx hb dX7_ofComer_93 rfl (lv_at hl 0 rfl) ?_
                  refine gF S hK hP i7 e_M rfl 12 (by decide) k22 f_M_worths dX7_ofComer_94 ?_
                  refine lv_aload_n hx hb dX7_ofComer_97 rfl (lv_at hl 0 rfl) ?_
                  refine gF S hK hP i7 e_M rfl 35 (by decide) k59 f_M_comerSort dX7_ofComer_98 ?_
                  refine lv_iload_n hx hb dX7_ofComer_101 rfl (lv_at hl 1 rfl) ?_
                  obtain ⟨hb_16, hF⟩ := hF
                  refine ldA S hK hP (k := 49) rfl hb_16 dX7_ofComer_102 ?_
                  obtain ⟨hb_17, hF⟩ := hF
                  refine ldA S hK hP (k := 37) rfl hb_17 dX7_ofComer_103 ?_
                  refine lv_aload_n hx hb dX7_ofComer_104 rfl (lv_at hl 0 rfl) ?_
                  refine gF S hK hP i7 e_M rfl 9 (by decide) k149 f_M_cost dX7_ofComer_105 ?_
                  refine lv_aload_n hx hb dX7_ofComer_108 rfl (lv_at hl 0 rfl) ?_
                  refine gF S hK hP i7 e_M rfl 37 (by decide) k65 f_M_waited dX7_ofComer_109 ?_
                  refine lv_iload_n hx hb dX7_ofComer_112 rfl (lv_at hl 1 rfl) ?_
                  obtain ⟨hb_18, hF⟩ := hF
                  refine ldA S hK hP (k := 51) rfl hb_18 dX7_ofComer_113 ?_
                  refine lv_imul hx hb dX7_ofComer_114 ?_
                  refine lv_isub hx hb dX7_ofComer_115 ?_
                  refine lv_goto (tgt := 120) hx hb dX7_ofComer_116 (by decide) ?_
                  exact retI S hr hlocks hP hS hF dX7_ofComer_120
              · have hF := hF.2 c_13
                refine lv_tableOut (tgt := 121) hx hb dX7_ofComer_11 (by have q0 := lv_neT c_3 (k := 0) (a := 0) (by decide); have q1 := lv_neT c_5 (k := 1) (a := 1) (by decide); have q2 := lv_neT c_7 (k := 2) (a := 2) (by decide); have q3 := lv_neT c_9 (k := 3) (a := 3) (by decide); have q4 := lv_neT c_11 (k := 4) (a := 4) (by decide); have q5 := lv_neT c_13 (k := 5) (a := 5) (by decide); omega) (by decide) ?_
                refine lv_bipush (v := -2) hx hb dX7_ofComer_121 (by decide) ?_
                exact retI S hr hlocks hP hS hF dX7_ofComer_123
  · have hF := hF.1 c_2
    refine lv_iconst (v := -1) hx hb dX7_ofComer_8 (by decide) ?_
    exact retI S hr hlocks hP hS hF dX7_ofComer_9
def wX7_leave (a1 : Int32) (Q : Int32 → Mm → Prop) (M : Mm) : Prop := (wX7_isComer a1 (fun r_1 M_1 => ((r_1 = 0 → (Q (-1 : Int32) M_1)) ∧ (¬ r_1 = 0 → (vp_in a1 40 ∧ (((ga M_1 50 a1.toNatClampNeg) = (1 : Int32) → (vp_in a1 40 ∧ (∀ M_5 : Mm, M_5 = (sa M_1 50 (upd (ga M_1 50) a1.toNatClampNeg (0 : Int32))) → (wX7_standing (fun r_7 M_7 => (Q r_7 M_7)) M_5)))) ∧ (¬ (ga M_1 50 a1.toNatClampNeg) = (1 : Int32) → (Q (-3 : Int32) M_1))))))) M)
set_option maxHeartbeats 4000000 in
set_option maxRecDepth 100000 in
theorem ctX7_leave (l : Launch) (D : va_G) (cI cJ : ClassId) (ad : Nat → Nat) (had : inj54 ad) (a1 : Int32) (Q : Int32 → Mm → Prop) (M : Mm) (hF : wX7_leave a1 Q M) : Met l yX7_leave wsX7_leave ({ frames := 1, cells := 0, slots := 0, locals := 22 } : Room) (PcW D cI cJ ad M [.ref (ad 32), .int a1]) (QiW D cI cJ ad Q) 0 0 (Fr ad) := by
  refine entW (y := yX7_leave) (ret := some .int) (maxL := 2) (plainFor_of_name (by decide)) rfl (Nat.le_of_ble_eq_true rfl) ?_
  intro p e s m args below meth c ls S hK hr hlocks hP hS hl
  have hx := S.1
  have hb := S.2.1
  have hown := S.2.2.2.1
  have hts := S.2.2.2.2
  have i7 : ∀ w ∈ wsX70, w ∈ wsX7_leave := by decide +kernel
  have k62 := hts (.fieldLink RX7 62 "RopeLineModel" "comerKind" "[I") (by decide +kernel)
  have hl : lv_has ls 2 [(0, .ref (ad 32)), (1, .int a1)] := hl
  unfold wX7_leave at hF
  refine lv_aload_n hx hb dX7_leave_0 rfl (lv_at hl 0 rfl) ?_
  refine lv_iload_n hx hb dX7_leave_1 rfl (lv_at hl 1 rfl) ?_
  refine goZ (rV (rest := []) S hK hP (ctX7_isComer l D cI cJ ad had a1 _ _ hF) (cwV 1 hts gX7_leave_X7_isComer rfl rfl rfl hdV_X7_isComer ⟨Nat.le_of_ble_eq_true rfl, Nat.le_of_ble_eq_true rfl⟩) e_M rfl rfl hl.1 rfl (Nat.le_of_ble_eq_true rfl) dX7_leave_2 ⟨Nat.zero_le _, Nat.zero_le _⟩) hS (fun _ h => h) (fun r_1 M_1 H locs hP hS hz_r_1 hF => ?_)
  refine lv_if_ne (tgt := 10) hx hb dX7_leave_5 (by decide) (fun c_2 => ?_) (fun c_2 => ?_)
  · have hF := hF.2 c_2
    refine lv_aload_n hx hb dX7_leave_10 rfl (lv_at hl 0 rfl) ?_
    refine gF S hK hP i7 e_M rfl 36 (by decide) k62 f_M_comerKind dX7_leave_11 ?_
    refine lv_iload_n hx hb dX7_leave_14 rfl (lv_at hl 1 rfl) ?_
    obtain ⟨hb_3, hF⟩ := hF
    refine ldA S hK hP (k := 50) rfl hb_3 dX7_leave_15 ?_
    refine lv_iconst (v := 1) hx hb dX7_leave_16 (by decide) ?_
    refine lv_icmp_eq (tgt := 23) hx hb dX7_leave_17 (by decide) (fun c_4 => ?_) (fun c_4 => ?_)
    · have hF := hF.1 c_4
      refine lv_aload_n hx hb dX7_leave_23 rfl (lv_at hl 0 rfl) ?_
      refine gF S hK hP i7 e_M rfl 36 (by decide) k62 f_M_comerKind dX7_leave_24 ?_
      refine lv_iload_n hx hb dX7_leave_27 rfl (lv_at hl 1 rfl) ?_
      refine lv_iconst (v := 0) hx hb dX7_leave_28 (by decide) ?_
      obtain ⟨hb_6, hF⟩ := hF
      refine stA S hK had hP hS (k := 50) rfl hb_6 dX7_leave_29 (fun M_5 H locs eM_5 hP hS => ?_)
      have hF := hF M_5 eM_5
      refine lv_aload_n hx hb dX7_leave_30 rfl (lv_at hl 0 rfl) ?_
      refine goI (rV (rest := []) S hK hP (ctX7_standing l D cI cJ ad had  _ _ hF) (cwV 0 hts gX7_leave_X7_standing rfl rfl rfl hdV_X7_standing ⟨Nat.le_of_ble_eq_true rfl, Nat.le_of_ble_eq_true rfl⟩) e_M rfl rfl hl.1 rfl (Nat.le_of_ble_eq_true rfl) dX7_leave_31 ⟨Nat.zero_le _, Nat.zero_le _⟩) hS (fun _ h => h) (fun r_7 M_7 H locs hP hS hF => ?_)
      exact retI S hr hlocks hP hS hF dX7_leave_34
    · have hF := hF.2 c_4
      refine lv_bipush (v := -3) hx hb dX7_leave_20 (by decide) ?_
      exact retI S hr hlocks hP hS hF dX7_leave_22
  · have hF := hF.1 c_2
    refine lv_iconst (v := -1) hx hb dX7_leave_8 (by decide) ?_
    exact retI S hr hlocks hP hS hF dX7_leave_9
def bX7_line_15 (a1 : Int32) (Q : Int32 → Mm → Prop) (J_15 : Int32 → Int32 → Mm → Prop) (x2_15 : Int32) (x3_15 : Int32) (m15 : Mm) : Prop := (((gi m15 40) ≤ x3_15 → ((a1 = (-1 : Int32) → (Q x2_15 m15)) ∧ (¬ a1 = (-1 : Int32) → (Q (-9 : Int32) m15)))) ∧ (¬ (gi m15 40) ≤ x3_15 → (vp_in x3_15 40 ∧ (((ga m15 50 x3_15.toNatClampNeg) = (1 : Int32) → ((x2_15 = a1 → (Q x3_15 m15)) ∧ (¬ x2_15 = a1 → (J_15 (x2_15 + 1) (x3_15 + 1) m15)))) ∧ (¬ (ga m15 50 x3_15.toNatClampNeg) = (1 : Int32) → (J_15 x2_15 (x3_15 + 1) m15))))))
def lX7_line_15 (a1 : Int32) (Q : Int32 → Mm → Prop) (x2_15 : Int32) (x3_15 : Int32) (m15 : Mm) : Prop := ∀ I : Int32 → Int32 → Mm → Prop, (∀ J : Int32 → Int32 → Mm → Prop, (∀ (x2_15 : Int32) (x3_15 : Int32) (m : Mm), J x2_15 x3_15 m → I x2_15 x3_15 m) → ∀ (x2_15 : Int32) (x3_15 : Int32) (m : Mm), bX7_line_15 a1 Q J x2_15 x3_15 m → I x2_15 x3_15 m) → I x2_15 x3_15 m15
theorem lX7_line_15_mk (a1 : Int32) (Q : Int32 → Mm → Prop) (x2_15 : Int32) (x3_15 : Int32) (m15 : Mm) (h : bX7_line_15 a1 Q (lX7_line_15 a1 Q) x2_15 x3_15 m15) : lX7_line_15 a1 Q x2_15 x3_15 m15 := fun I hI => hI (lX7_line_15 a1 Q) (fun _ _ _ q => q I hI) _ _ _ h
def wX7_line (a1 : Int32) (Q : Int32 → Mm → Prop) (M : Mm) : Prop := (wX7_within a1 (-1 : Int32) (4 : Int32) (fun r_1 M_1 => ((r_1 = 0 → (Q (-1 : Int32) M_1)) ∧ (¬ r_1 = 0 → (lX7_line_15 a1 Q (0 : Int32) (0 : Int32) M_1)))) M)
set_option maxHeartbeats 4000000 in
set_option maxRecDepth 100000 in
theorem ctX7_line (l : Launch) (D : va_G) (cI cJ : ClassId) (ad : Nat → Nat) (had : inj54 ad) (a1 : Int32) (Q : Int32 → Mm → Prop) (M : Mm) (hF : wX7_line a1 Q M) : Met l yX7_line wsX7_line ({ frames := 1, cells := 0, slots := 0, locals := 22 } : Room) (PcW D cI cJ ad M [.ref (ad 32), .int a1]) (QiW D cI cJ ad Q) 0 0 (Fr ad) := by
  refine entW (y := yX7_line) (ret := some .int) (maxL := 4) (plainFor_of_name (by decide)) rfl (Nat.le_of_ble_eq_true rfl) ?_
  intro p e s m args below meth c ls S hK hr hlocks hP hS hl
  have hx := S.1
  have hb := S.2.1
  have hown := S.2.2.2.1
  have hts := S.2.2.2.2
  have i7 : ∀ w ∈ wsX70, w ∈ wsX7_line := by decide +kernel
  have k164 := hts (.fieldLink RX7 164 "RopeLineModel" "comers" "I") (by decide +kernel)
  have k62 := hts (.fieldLink RX7 62 "RopeLineModel" "comerKind" "[I") (by decide +kernel)
  have hl : lv_has ls 4 [(0, .ref (ad 32)), (1, .int a1)] := hl
  unfold wX7_line at hF
  refine lv_iload_n hx hb dX7_line_0 rfl (lv_at hl 1 rfl) ?_
  refine lv_iconst (v := -1) hx hb dX7_line_1 (by decide) ?_
  refine lv_iconst (v := 4) hx hb dX7_line_2 (by decide) ?_
  refine goZ (rS (rest := []) S hK hP (ctX7_within l D cI cJ ad had a1 (-1 : Int32) (4 : Int32) _ _ hF) (va_cwS 3 hts gX7_line_X7_within rfl rfl rfl hdS_X7_within ⟨Nat.le_of_ble_eq_true rfl, Nat.le_of_ble_eq_true rfl⟩) rfl hl.1 rfl (Nat.le_of_ble_eq_true rfl) dX7_line_3 ⟨Nat.zero_le _, Nat.zero_le _⟩) hS (fun _ h => h) (fun r_1 M_1 H locs hP hS hz_r_1 hF => ?_)
  refine lv_if_ne (tgt := 11) hx hb dX7_line_6 (by decide) (fun c_2 => ?_) (fun c_2 => ?_)
  · have hF := hF.2 c_2
    refine lv_iconst (v := 0) hx hb dX7_line_11 (by decide) ?_
    refine lv_istore_n (lv' := [(2, .int (0 : Int32)), (0, .ref (ad 32)), (1, .int a1)]) hx hb dX7_line_12 rfl hl (by decide) rfl (fun ls hl => ?_)
    refine lv_iconst (v := 0) hx hb dX7_line_13 (by decide) ?_
    refine lv_istore_n (lv' := [(3, .int (0 : Int32)), (2, .int (0 : Int32)), (0, .ref (ad 32)), (1, .int a1)]) hx hb dX7_line_14 rfl hl (by decide) rfl (fun ls hl => ?_)
    have key_15 : ∀ (x2_15 : Int32) (x3_15 : Int32) (m15 : Mm), (lX7_line_15 a1 Q x2_15 x3_15 m15) → Wc p l e ({ frames := 1, cells := 0, slots := 0, locals := 22 } : Room) s m args below meth c D cI cJ ad (MQ below (QiW D cI cJ ad Q) args s 0 0 (Fr ad)) 4 15 [(0, .ref (ad 32)), (1, .int a1), (2, .int x2_15), (3, .int x3_15)] m15 := by
      intro x2_15 x3_15 m15 hL
      refine hL (fun x2_15 x3_15 m15 => Wc p l e ({ frames := 1, cells := 0, slots := 0, locals := 22 } : Room) s m args below meth c D cI cJ ad (MQ below (QiW D cI cJ ad Q) args s 0 0 (Fr ad)) 4 15 [(0, .ref (ad 32)), (1, .int a1), (2, .int x2_15), (3, .int x3_15)] m15) ?_
      intro J_15 hJ_15 x2_15 x3_15 m15 hF H locs ls hP hS hl
      unfold bX7_line_15 at hF
      refine lv_iload_n hx hb dX7_line_15 rfl (lv_at hl 3 rfl) ?_
      refine lv_aload_n hx hb dX7_line_16 rfl (lv_at hl 0 rfl) ?_
      refine gF S hK hP i7 e_M rfl 32 (by decide) k164 f_M_comers dX7_line_17 ?_
      refine lv_icmp_ge (tgt := 49) hx hb dX7_line_20 (by decide) (fun c_3 => ?_) (fun c_3 => ?_)
      · have hF := hF.1 c_3
        refine lv_iload_n hx hb dX7_line_49 rfl (lv_at hl 1 rfl) ?_
        refine lv_iconst (v := -1) hx hb dX7_line_50 (by decide) ?_
        refine lv_icmp_ne (tgt := 58) hx hb dX7_line_51 (by decide) (fun c_4 => ?_) (fun c_4 => ?_)
        · have hF := hF.2 c_4
          refine lv_bipush (v := -9) hx hb dX7_line_58 (by decide) ?_
          exact retI S hr hlocks hP hS hF dX7_line_60
        · have hF := hF.1 c_4
          refine lv_iload_n hx hb dX7_line_54 rfl (lv_at hl 2 rfl) ?_
          refine lv_goto (tgt := 60) hx hb dX7_line_55 (by decide) ?_
          exact retI S hr hlocks hP hS hF dX7_line_60
      · have hF := hF.2 c_3
        refine lv_aload_n hx hb dX7_line_23 rfl (lv_at hl 0 rfl) ?_
        refine gF S hK hP i7 e_M rfl 36 (by decide) k62 f_M_comerKind dX7_line_24 ?_
        refine lv_iload_n hx hb dX7_line_27 rfl (lv_at hl 3 rfl) ?_
        obtain ⟨hb_5, hF⟩ := hF
        refine ldA S hK hP (k := 50) rfl hb_5 dX7_line_28 ?_
        refine lv_iconst (v := 1) hx hb dX7_line_29 (by decide) ?_
        refine lv_icmp_ne (tgt := 43) hx hb dX7_line_30 (by decide) (fun c_6 => ?_) (fun c_6 => ?_)
        · have hF := hF.2 c_6
          refine lv_iinc (v := (x3_15 + 1)) (lv' := [(3, .int (x3_15 + 1)), (0, .ref (ad 32)), (1, .int a1), (2, .int x2_15)]) hx hb dX7_line_43 hl (k := 3) rfl rfl (by decide) rfl (fun ls hl => ?_)
          refine lv_goto (tgt := 15) hx hb dX7_line_46 (by decide) ?_
          exact hJ_15 _ _ _ hF _ _ _ hP hS (lv_sub hl [1, 2, 3, 0] rfl)
        · have hF := hF.1 c_6
          refine lv_iload_n hx hb dX7_line_33 rfl (lv_at hl 2 rfl) ?_
          refine lv_iload_n hx hb dX7_line_34 rfl (lv_at hl 1 rfl) ?_
          refine lv_icmp_ne (tgt := 40) hx hb dX7_line_35 (by decide) (fun c_7 => ?_) (fun c_7 => ?_)
          · have hF := hF.2 c_7
            refine lv_iinc (v := (x2_15 + 1)) (lv' := [(2, .int (x2_15 + 1)), (0, .ref (ad 32)), (1, .int a1), (3, .int x3_15)]) hx hb dX7_line_40 hl (k := 2) rfl rfl (by decide) rfl (fun ls hl => ?_)
            refine lv_iinc (v := (x3_15 + 1)) (lv' := [(3, .int (x3_15 + 1)), (2, .int (x2_15 + 1)), (0, .ref (ad 32)), (1, .int a1)]) hx hb dX7_line_43 hl (k := 3) rfl rfl (by decide) rfl (fun ls hl => ?_)
            refine lv_goto (tgt := 15) hx hb dX7_line_46 (by decide) ?_
            exact hJ_15 _ _ _ hF _ _ _ hP hS (lv_sub hl [2, 3, 1, 0] rfl)
          · have hF := hF.1 c_7
            refine lv_iload_n hx hb dX7_line_38 rfl (lv_at hl 3 rfl) ?_
            exact retI S hr hlocks hP hS hF dX7_line_39
    exact key_15 _ _ _ hF _ _ _ hP hS (lv_sub hl [2, 3, 1, 0] rfl)
  · have hF := hF.1 c_2
    refine lv_iconst (v := -1) hx hb dX7_line_9 (by decide) ?_
    exact retI S hr hlocks hP hS hF dX7_line_10
def bX7_envy_16 (x2_4 : Int32) (Q : Int32 → Mm → Prop) (J_4 : Int32 → Int32 → Mm → Prop) (J_16 : Int32 → Int32 → Mm → Prop) (x1_16 : Int32) (x3_16 : Int32) (m16 : Mm) : Prop := (((gi m16 40) ≤ x3_16 → (J_4 x1_16 (x2_4 + 1) m16)) ∧ (¬ (gi m16 40) ≤ x3_16 → (vp_in x2_4 40 ∧ (((ga m16 50 x2_4.toNatClampNeg) = (2 : Int32) → (vp_in x3_16 40 ∧ (((ga m16 50 x3_16.toNatClampNeg) = (2 : Int32) → (vp_in x2_4 40 ∧ (vp_in x3_16 40 ∧ (((ga m16 53 x2_4.toNatClampNeg) ≤ (ga m16 53 x3_16.toNatClampNeg) → (J_16 (x1_16 + (0 : Int32)) (x3_16 + 1) m16)) ∧ (¬ (ga m16 53 x2_4.toNatClampNeg) ≤ (ga m16 53 x3_16.toNatClampNeg) → (J_16 (x1_16 + (1 : Int32)) (x3_16 + 1) m16)))))) ∧ (¬ (ga m16 50 x3_16.toNatClampNeg) = (2 : Int32) → (J_16 (x1_16 + (0 : Int32)) (x3_16 + 1) m16))))) ∧ (¬ (ga m16 50 x2_4.toNatClampNeg) = (2 : Int32) → (J_16 (x1_16 + (0 : Int32)) (x3_16 + 1) m16))))))
def lX7_envy_16 (x2_4 : Int32) (Q : Int32 → Mm → Prop) (J_4 : Int32 → Int32 → Mm → Prop) (x1_16 : Int32) (x3_16 : Int32) (m16 : Mm) : Prop := ∀ I : Int32 → Int32 → Mm → Prop, (∀ J : Int32 → Int32 → Mm → Prop, (∀ (x1_16 : Int32) (x3_16 : Int32) (m : Mm), J x1_16 x3_16 m → I x1_16 x3_16 m) → ∀ (x1_16 : Int32) (x3_16 : Int32) (m : Mm), bX7_envy_16 x2_4 Q J_4 J x1_16 x3_16 m → I x1_16 x3_16 m) → I x1_16 x3_16 m16
theorem lX7_envy_16_mk (x2_4 : Int32) (Q : Int32 → Mm → Prop) (J_4 : Int32 → Int32 → Mm → Prop) (x1_16 : Int32) (x3_16 : Int32) (m16 : Mm) (h : bX7_envy_16 x2_4 Q J_4 (lX7_envy_16 x2_4 Q J_4) x1_16 x3_16 m16) : lX7_envy_16 x2_4 Q J_4 x1_16 x3_16 m16 := fun I hI => hI (lX7_envy_16 x2_4 Q J_4) (fun _ _ _ q => q I hI) _ _ _ h
def bX7_envy_4 (Q : Int32 → Mm → Prop) (J_4 : Int32 → Int32 → Mm → Prop) (x1_4 : Int32) (x2_4 : Int32) (m4 : Mm) : Prop := (((gi m4 40) ≤ x2_4 → (Q x1_4 m4)) ∧ (¬ (gi m4 40) ≤ x2_4 → (lX7_envy_16 x2_4 Q J_4 x1_4 (x2_4 + (1 : Int32)) m4)))
def lX7_envy_4 (Q : Int32 → Mm → Prop) (x1_4 : Int32) (x2_4 : Int32) (m4 : Mm) : Prop := ∀ I : Int32 → Int32 → Mm → Prop, (∀ J : Int32 → Int32 → Mm → Prop, (∀ (x1_4 : Int32) (x2_4 : Int32) (m : Mm), J x1_4 x2_4 m → I x1_4 x2_4 m) → ∀ (x1_4 : Int32) (x2_4 : Int32) (m : Mm), bX7_envy_4 Q J x1_4 x2_4 m → I x1_4 x2_4 m) → I x1_4 x2_4 m4
theorem lX7_envy_4_mk (Q : Int32 → Mm → Prop) (x1_4 : Int32) (x2_4 : Int32) (m4 : Mm) (h : bX7_envy_4 Q (lX7_envy_4 Q) x1_4 x2_4 m4) : lX7_envy_4 Q x1_4 x2_4 m4 := fun I hI => hI (lX7_envy_4 Q) (fun _ _ _ q => q I hI) _ _ _ h
def wX7_envy (Q : Int32 → Mm → Prop) (M : Mm) : Prop := (lX7_envy_4 Q (0 : Int32) (0 : Int32) M)
set_option maxHeartbeats 4000000 in
set_option maxRecDepth 100000 in
theorem ctX7_envy (l : Launch) (D : va_G) (cI cJ : ClassId) (ad : Nat → Nat) (had : inj54 ad)  (Q : Int32 → Mm → Prop) (M : Mm) (hF : wX7_envy Q M) : Met l yX7_envy wsX7_envy ({ frames := 0, cells := 0, slots := 0, locals := 0 } : Room) (PcW D cI cJ ad M [.ref (ad 32)]) (QiW D cI cJ ad Q) 0 0 (Fr ad) := by
  refine entW (y := yX7_envy) (ret := some .int) (maxL := 4) (plainFor_of_name (by decide)) rfl (Nat.le_of_ble_eq_true rfl) ?_
  intro p e s m args below meth c ls S hK hr hlocks hP hS hl
  have hx := S.1
  have hb := S.2.1
  have hown := S.2.2.2.1
  have hts := S.2.2.2.2
  have i7 : ∀ w ∈ wsX70, w ∈ wsX7_envy := by decide +kernel
  have k164 := hts (.fieldLink RX7 164 "RopeLineModel" "comers" "I") (by decide +kernel)
  have k62 := hts (.fieldLink RX7 62 "RopeLineModel" "comerKind" "[I") (by decide +kernel)
  have k71 := hts (.fieldLink RX7 71 "RopeLineModel" "gone" "[I") (by decide +kernel)
  have hl : lv_has ls 4 [(0, .ref (ad 32))] := hl
  unfold wX7_envy at hF
  refine lv_iconst (v := 0) hx hb dX7_envy_0 (by decide) ?_
  refine lv_istore_n (lv' := [(1, .int (0 : Int32)), (0, .ref (ad 32))]) hx hb dX7_envy_1 rfl hl (by decide) rfl (fun ls hl => ?_)
  refine lv_iconst (v := 0) hx hb dX7_envy_2 (by decide) ?_
  refine lv_istore_n (lv' := [(2, .int (0 : Int32)), (1, .int (0 : Int32)), (0, .ref (ad 32))]) hx hb dX7_envy_3 rfl hl (by decide) rfl (fun ls hl => ?_)
  have key_4 : ∀ (x1_4 : Int32) (x2_4 : Int32) (m4 : Mm), (lX7_envy_4 Q x1_4 x2_4 m4) → Wc p l e ({ frames := 0, cells := 0, slots := 0, locals := 0 } : Room) s m args below meth c D cI cJ ad (MQ below (QiW D cI cJ ad Q) args s 0 0 (Fr ad)) 4 4 [(0, .ref (ad 32)), (1, .int x1_4), (2, .int x2_4)] m4 := by
    intro x1_4 x2_4 m4 hL
    refine hL (fun x1_4 x2_4 m4 => Wc p l e ({ frames := 0, cells := 0, slots := 0, locals := 0 } : Room) s m args below meth c D cI cJ ad (MQ below (QiW D cI cJ ad Q) args s 0 0 (Fr ad)) 4 4 [(0, .ref (ad 32)), (1, .int x1_4), (2, .int x2_4)] m4) ?_
    intro J_4 hJ_4 x1_4 x2_4 m4 hF H locs ls hP hS hl
    unfold bX7_envy_4 at hF
    refine lv_iload_n hx hb dX7_envy_4 rfl (lv_at hl 2 rfl) ?_
    refine lv_aload_n hx hb dX7_envy_5 rfl (lv_at hl 0 rfl) ?_
    refine gF S hK hP i7 e_M rfl 32 (by decide) k164 f_M_comers dX7_envy_6 ?_
    refine lv_icmp_ge (tgt := 79) hx hb dX7_envy_9 (by decide) (fun c_1 => ?_) (fun c_1 => ?_)
    · have hF := hF.1 c_1
      refine lv_iload_n hx hb dX7_envy_79 rfl (lv_at hl 1 rfl) ?_
      exact retI S hr hlocks hP hS hF dX7_envy_80
    · have hF := hF.2 c_1
      refine lv_iload_n hx hb dX7_envy_12 rfl (lv_at hl 2 rfl) ?_
      refine lv_iconst (v := 1) hx hb dX7_envy_13 (by decide) ?_
      refine lv_iadd hx hb dX7_envy_14 ?_
      refine lv_istore_n (lv' := [(3, .int (x2_4 + (1 : Int32))), (0, .ref (ad 32)), (1, .int x1_4), (2, .int x2_4)]) hx hb dX7_envy_15 rfl hl (by decide) rfl (fun ls hl => ?_)
      have key_16 : ∀ (x1_16 : Int32) (x3_16 : Int32) (m16 : Mm), (lX7_envy_16 x2_4 Q J_4 x1_16 x3_16 m16) → Wc p l e ({ frames := 0, cells := 0, slots := 0, locals := 0 } : Room) s m args below meth c D cI cJ ad (MQ below (QiW D cI cJ ad Q) args s 0 0 (Fr ad)) 4 16 [(0, .ref (ad 32)), (1, .int x1_16), (2, .int x2_4), (3, .int x3_16)] m16 := by
        intro x1_16 x3_16 m16 hL
        refine hL (fun x1_16 x3_16 m16 => Wc p l e ({ frames := 0, cells := 0, slots := 0, locals := 0 } : Room) s m args below meth c D cI cJ ad (MQ below (QiW D cI cJ ad Q) args s 0 0 (Fr ad)) 4 16 [(0, .ref (ad 32)), (1, .int x1_16), (2, .int x2_4), (3, .int x3_16)] m16) ?_
        intro J_16 hJ_16 x1_16 x3_16 m16 hF H locs ls hP hS hl
        unfold bX7_envy_16 at hF
        refine lv_iload_n hx hb dX7_envy_16 rfl (lv_at hl 3 rfl) ?_
        refine lv_aload_n hx hb dX7_envy_17 rfl (lv_at hl 0 rfl) ?_
        refine gF S hK hP i7 e_M rfl 32 (by decide) k164 f_M_comers dX7_envy_18 ?_
        refine lv_icmp_ge (tgt := 73) hx hb dX7_envy_21 (by decide) (fun c_2 => ?_) (fun c_2 => ?_)
        · have hF := hF.1 c_2
          refine lv_iinc (v := (x2_4 + 1)) (lv' := [(2, .int (x2_4 + 1)), (0, .ref (ad 32)), (1, .int x1_16), (3, .int x3_16)]) hx hb dX7_envy_73 hl (k := 2) rfl rfl (by decide) rfl (fun ls hl => ?_)
          refine lv_goto (tgt := 4) hx hb dX7_envy_76 (by decide) ?_
          exact hJ_4 _ _ _ hF _ _ _ hP hS (lv_sub hl [1, 2, 0] rfl)
        · have hF := hF.2 c_2
          refine lv_iload_n hx hb dX7_envy_24 rfl (lv_at hl 1 rfl) ?_
          refine lv_aload_n hx hb dX7_envy_25 rfl (lv_at hl 0 rfl) ?_
          refine gF S hK hP i7 e_M rfl 36 (by decide) k62 f_M_comerKind dX7_envy_26 ?_
          refine lv_iload_n hx hb dX7_envy_29 rfl (lv_at hl 2 rfl) ?_
          obtain ⟨hb_3, hF⟩ := hF
          refine ldA S hK hP (k := 50) rfl hb_3 dX7_envy_30 ?_
          refine lv_iconst (v := 2) hx hb dX7_envy_31 (by decide) ?_
          refine lv_icmp_ne (tgt := 64) hx hb dX7_envy_32 (by decide) (fun c_4 => ?_) (fun c_4 => ?_)
          · have hF := hF.2 c_4
            refine lv_iconst (v := 0) hx hb dX7_envy_64 (by decide) ?_
            refine lv_iadd hx hb dX7_envy_65 ?_
            refine lv_istore_n (lv' := [(1, .int (x1_16 + (0 : Int32))), (0, .ref (ad 32)), (2, .int x2_4), (3, .int x3_16)]) hx hb dX7_envy_66 rfl hl (by decide) rfl (fun ls hl => ?_)
            refine lv_iinc (v := (x3_16 + 1)) (lv' := [(3, .int (x3_16 + 1)), (1, .int (x1_16 + (0 : Int32))), (0, .ref (ad 32)), (2, .int x2_4)]) hx hb dX7_envy_67 hl (k := 3) rfl rfl (by decide) rfl (fun ls hl => ?_)
            refine lv_goto (tgt := 16) hx hb dX7_envy_70 (by decide) ?_
            exact hJ_16 _ _ _ hF _ _ _ hP hS (lv_sub hl [2, 1, 3, 0] rfl)
          · have hF := hF.1 c_4
            refine lv_aload_n hx hb dX7_envy_35 rfl (lv_at hl 0 rfl) ?_
            refine gF S hK hP i7 e_M rfl 36 (by decide) k62 f_M_comerKind dX7_envy_36 ?_
            refine lv_iload_n hx hb dX7_envy_39 rfl (lv_at hl 3 rfl) ?_
            obtain ⟨hb_5, hF⟩ := hF
            refine ldA S hK hP (k := 50) rfl hb_5 dX7_envy_40 ?_
            refine lv_iconst (v := 2) hx hb dX7_envy_41 (by decide) ?_
            refine lv_icmp_ne (tgt := 64) hx hb dX7_envy_42 (by decide) (fun c_6 => ?_) (fun c_6 => ?_)
            · have hF := hF.2 c_6
              refine lv_iconst (v := 0) hx hb dX7_envy_64 (by decide) ?_
              refine lv_iadd hx hb dX7_envy_65 ?_
              refine lv_istore_n (lv' := [(1, .int (x1_16 + (0 : Int32))), (0, .ref (ad 32)), (2, .int x2_4), (3, .int x3_16)]) hx hb dX7_envy_66 rfl hl (by decide) rfl (fun ls hl => ?_)
              refine lv_iinc (v := (x3_16 + 1)) (lv' := [(3, .int (x3_16 + 1)), (1, .int (x1_16 + (0 : Int32))), (0, .ref (ad 32)), (2, .int x2_4)]) hx hb dX7_envy_67 hl (k := 3) rfl rfl (by decide) rfl (fun ls hl => ?_)
              refine lv_goto (tgt := 16) hx hb dX7_envy_70 (by decide) ?_
              exact hJ_16 _ _ _ hF _ _ _ hP hS (lv_sub hl [2, 1, 3, 0] rfl)
            · have hF := hF.1 c_6
              refine lv_aload_n hx hb dX7_envy_45 rfl (lv_at hl 0 rfl) ?_
              refine gF S hK hP i7 e_M rfl 39 (by decide) k71 f_M_gone dX7_envy_46 ?_
              refine lv_iload_n hx hb dX7_envy_49 rfl (lv_at hl 2 rfl) ?_
              obtain ⟨hb_7, hF⟩ := hF
              refine ldA S hK hP (k := 53) rfl hb_7 dX7_envy_50 ?_
              refine lv_aload_n hx hb dX7_envy_51 rfl (lv_at hl 0 rfl) ?_
              refine gF S hK hP i7 e_M rfl 39 (by decide) k71 f_M_gone dX7_envy_52 ?_
              refine lv_iload_n hx hb dX7_envy_55 rfl (lv_at hl 3 rfl) ?_
              obtain ⟨hb_8, hF⟩ := hF
              refine ldA S hK hP (k := 53) rfl hb_8 dX7_envy_56 ?_
              refine lv_icmp_le (tgt := 64) hx hb dX7_envy_57 (by decide) (fun c_9 => ?_) (fun c_9 => ?_)
              · have hF := hF.1 c_9
                refine lv_iconst (v := 0) hx hb dX7_envy_64 (by decide) ?_
                refine lv_iadd hx hb dX7_envy_65 ?_
                refine lv_istore_n (lv' := [(1, .int (x1_16 + (0 : Int32))), (0, .ref (ad 32)), (2, .int x2_4), (3, .int x3_16)]) hx hb dX7_envy_66 rfl hl (by decide) rfl (fun ls hl => ?_)
                refine lv_iinc (v := (x3_16 + 1)) (lv' := [(3, .int (x3_16 + 1)), (1, .int (x1_16 + (0 : Int32))), (0, .ref (ad 32)), (2, .int x2_4)]) hx hb dX7_envy_67 hl (k := 3) rfl rfl (by decide) rfl (fun ls hl => ?_)
                refine lv_goto (tgt := 16) hx hb dX7_envy_70 (by decide) ?_
                exact hJ_16 _ _ _ hF _ _ _ hP hS (lv_sub hl [2, 1, 3, 0] rfl)
              · have hF := hF.2 c_9
                refine lv_iconst (v := 1) hx hb dX7_envy_60 (by decide) ?_
                refine lv_goto (tgt := 65) hx hb dX7_envy_61 (by decide) ?_
                refine lv_iadd hx hb dX7_envy_65 ?_
                refine lv_istore_n (lv' := [(1, .int (x1_16 + (1 : Int32))), (0, .ref (ad 32)), (2, .int x2_4), (3, .int x3_16)]) hx hb dX7_envy_66 rfl hl (by decide) rfl (fun ls hl => ?_)
                refine lv_iinc (v := (x3_16 + 1)) (lv' := [(3, .int (x3_16 + 1)), (1, .int (x1_16 + (1 : Int32))), (0, .ref (ad 32)), (2, .int x2_4)]) hx hb dX7_envy_67 hl (k := 3) rfl rfl (by decide) rfl (fun ls hl => ?_)
                refine lv_goto (tgt := 16) hx hb dX7_envy_70 (by decide) ?_
                exact hJ_16 _ _ _ hF _ _ _ hP hS (lv_sub hl [2, 1, 3, 0] rfl)
      exact key_16 _ _ _ hF _ _ _ hP hS (lv_sub hl [1, 2, 3, 0] rfl)
  exact key_4 _ _ _ hF _ _ _ hP hS (lv_sub hl [2, 1, 0] rfl)
def bX7_sheet_57 (a1 : Int32) (Q : Int32 → Mm → Prop) (J_57 : Int32 → Mm → Prop) (x4_57 : Int32) (m57 : Mm) : Prop := (((60 : Int32) ≤ x4_57 → (Q (1 : Int32) m57)) ∧ (¬ (60 : Int32) ≤ x4_57 → (vp_in (((60 : Int32) * a1) + x4_57) 240 ∧ (∀ M_13 : Mm, M_13 = (sa m57 35 (upd (ga m57 35) (((60 : Int32) * a1) + x4_57).toNatClampNeg (0 : Int32))) → (J_57 (x4_57 + 1) M_13)))))
def lX7_sheet_57 (a1 : Int32) (Q : Int32 → Mm → Prop) (x4_57 : Int32) (m57 : Mm) : Prop := ∀ I : Int32 → Mm → Prop, (∀ J : Int32 → Mm → Prop, (∀ (x4_57 : Int32) (m : Mm), J x4_57 m → I x4_57 m) → ∀ (x4_57 : Int32) (m : Mm), bX7_sheet_57 a1 Q J x4_57 m → I x4_57 m) → I x4_57 m57
theorem lX7_sheet_57_mk (a1 : Int32) (Q : Int32 → Mm → Prop) (x4_57 : Int32) (m57 : Mm) (h : bX7_sheet_57 a1 Q (lX7_sheet_57 a1 Q) x4_57 m57) : lX7_sheet_57 a1 Q x4_57 m57 := fun I hI => hI (lX7_sheet_57 a1 Q) (fun _ _ q => q I hI) _ _ h
def wX7_sheet (a1 : Int32) (a2 : Int32) (a3 : Int32) (Q : Int32 → Mm → Prop) (M : Mm) : Prop := (∀ M_1 : Mm, M_1 = (si M 26 (0 : Int32)) → (wX7_isSheet a1 (fun r_2 M_2 => ((r_2 = 0 → (Q (-1 : Int32) M_2)) ∧ (¬ r_2 = 0 → (wX7_isLane a2 (fun r_4 M_4 => ((r_4 = 0 → (Q (-2 : Int32) M_4)) ∧ (¬ r_4 = 0 → ((a3 ≤ (60 : Int32) → ((0 ≤ a3 → (vp_in a1 4 ∧ (∀ M_8 : Mm, M_8 = (sa M_4 33 (upd (ga M_4 33) a1.toNatClampNeg a2)) → (vp_in a1 4 ∧ (∀ M_10 : Mm, M_10 = (sa M_8 34 (upd (ga M_8 34) a1.toNatClampNeg a3)) → (lX7_sheet_57 a1 Q (0 : Int32) M_10)))))) ∧ (¬ 0 ≤ a3 → (wX7_fails (4 : Int32) (fun r_15 M_15 => (Q r_15 M_15)) M_4)))) ∧ (¬ a3 ≤ (60 : Int32) → (Q (-2 : Int32) M_4)))))) M_2)))) M_1))
set_option maxHeartbeats 4000000 in
set_option maxRecDepth 100000 in
theorem ctX7_sheet (l : Launch) (D : va_G) (cI cJ : ClassId) (ad : Nat → Nat) (had : inj54 ad) (a1 : Int32) (a2 : Int32) (a3 : Int32) (Q : Int32 → Mm → Prop) (M : Mm) (hF : wX7_sheet a1 a2 a3 Q M) : Met l yX7_sheet wsX7_sheet ({ frames := 2, cells := 0, slots := 0, locals := 42 } : Room) (PcW D cI cJ ad M [.ref (ad 32), .int a1, .int a2, .int a3]) (QiW D cI cJ ad Q) 0 0 (Fr ad) := by
  refine entW (y := yX7_sheet) (ret := some .int) (maxL := 5) (plainFor_of_name (by decide)) rfl (Nat.le_of_ble_eq_true rfl) ?_
  intro p e s m args below meth c ls S hK hr hlocks hP hS hl
  have hx := S.1
  have hb := S.2.1
  have hown := S.2.2.2.1
  have hts := S.2.2.2.2
  have i7 : ∀ w ∈ wsX70, w ∈ wsX7_sheet := by decide +kernel
  have k74 := hts (.fieldLink RX7 74 "RopeLineModel" "fault" "I") (by decide +kernel)
  have k9 := hts (.fieldLink RX7 9 "RopeLineModel" "lanes" "[I") (by decide +kernel)
  have k13 := hts (.fieldLink RX7 13 "RopeLineModel" "sheetLong" "[I") (by decide +kernel)
  have k16 := hts (.fieldLink RX7 16 "RopeLineModel" "cells" "[I") (by decide +kernel)
  have hl : lv_has ls 5 [(0, .ref (ad 32)), (1, .int a1), (2, .int a2), (3, .int a3)] := hl
  unfold wX7_sheet at hF
  refine lv_aload_n hx hb dX7_sheet_0 rfl (lv_at hl 0 rfl) ?_
  refine lv_iconst (v := 0) hx hb dX7_sheet_1 (by decide) ?_
  refine pF S hK had hP hS i7 tyX7_ok nmX7 e_M rfl 0 (by decide) k74 rfl rfl rfl (Nat.lt_of_lt_of_eq (by decide) len_M.symm) s_M_fault dX7_sheet_2 (fun M_1 H locs eM_1 hP hS => ?_)
  have hF := hF M_1 eM_1
  refine lv_iload_n hx hb dX7_sheet_5 rfl (lv_at hl 1 rfl) ?_
  refine goZ (rS (rest := []) S hK hP (ctX7_isSheet l D cI cJ ad had a1 _ _ hF) (va_cwS 1 hts gX7_sheet_X7_isSheet rfl rfl rfl hdS_X7_isSheet ⟨Nat.le_of_ble_eq_true rfl, Nat.le_of_ble_eq_true rfl⟩) rfl hl.1 rfl (Nat.le_of_ble_eq_true rfl) dX7_sheet_6 ⟨Nat.zero_le _, Nat.zero_le _⟩) hS (fun _ h => h) (fun r_2 M_2 H locs hP hS hz_r_2 hF => ?_)
  refine lv_if_ne (tgt := 14) hx hb dX7_sheet_9 (by decide) (fun c_3 => ?_) (fun c_3 => ?_)
  · have hF := hF.2 c_3
    refine lv_iload_n hx hb dX7_sheet_14 rfl (lv_at hl 2 rfl) ?_
    refine goZ (rS (rest := []) S hK hP (ctX7_isLane l D cI cJ ad had a2 _ _ hF) (va_cwS 1 hts gX7_sheet_X7_isLane rfl rfl rfl hdS_X7_isLane ⟨Nat.le_of_ble_eq_true rfl, Nat.le_of_ble_eq_true rfl⟩) rfl hl.1 rfl (Nat.le_of_ble_eq_true rfl) dX7_sheet_15 ⟨Nat.zero_le _, Nat.zero_le _⟩) hS (fun _ h => h) (fun r_4 M_4 H locs hP hS hz_r_4 hF => ?_)
    refine lv_if_eq (tgt := 27) hx hb dX7_sheet_18 (by decide) (fun c_5 => ?_) (fun c_5 => ?_)
    · have hF := hF.1 c_5
      refine lv_bipush (v := -2) hx hb dX7_sheet_27 (by decide) ?_
      exact retI S hr hlocks hP hS hF dX7_sheet_29
    · have hF := hF.2 c_5
      refine lv_iload_n hx hb dX7_sheet_21 rfl (lv_at hl 3 rfl) ?_
      refine lv_bipush (v := 60) hx hb dX7_sheet_22 (by decide) ?_
      refine lv_icmp_le (tgt := 30) hx hb dX7_sheet_24 (by decide) (fun c_6 => ?_) (fun c_6 => ?_)
      · have hF := hF.1 c_6
        refine lv_iload_n hx hb dX7_sheet_30 rfl (lv_at hl 3 rfl) ?_
        refine lv_if_ge (tgt := 40) hx hb dX7_sheet_31 (by decide) (fun c_7 => ?_) (fun c_7 => ?_)
        · have hF := hF.1 c_7
          refine lv_aload_n hx hb dX7_sheet_40 rfl (lv_at hl 0 rfl) ?_
          refine gF S hK hP i7 e_M rfl 4 (by decide) k9 f_M_lanes dX7_sheet_41 ?_
          refine lv_iload_n hx hb dX7_sheet_44 rfl (lv_at hl 1 rfl) ?_
          refine lv_iload_n hx hb dX7_sheet_45 rfl (lv_at hl 2 rfl) ?_
          obtain ⟨hb_9, hF⟩ := hF
          refine stA S hK had hP hS (k := 33) rfl hb_9 dX7_sheet_46 (fun M_8 H locs eM_8 hP hS => ?_)
          have hF := hF M_8 eM_8
          refine lv_aload_n hx hb dX7_sheet_47 rfl (lv_at hl 0 rfl) ?_
          refine gF S hK hP i7 e_M rfl 5 (by decide) k13 f_M_sheetLong dX7_sheet_48 ?_
          refine lv_iload_n hx hb dX7_sheet_51 rfl (lv_at hl 1 rfl) ?_
          refine lv_iload_n hx hb dX7_sheet_52 rfl (lv_at hl 3 rfl) ?_
          obtain ⟨hb_11, hF⟩ := hF
          refine stA S hK had hP hS (k := 34) rfl hb_11 dX7_sheet_53 (fun M_10 H locs eM_10 hP hS => ?_)
          have hF := hF M_10 eM_10
          refine lv_iconst (v := 0) hx hb dX7_sheet_54 (by decide) ?_
          refine lv_istore (lv' := [(4, .int (0 : Int32)), (0, .ref (ad 32)), (1, .int a1), (2, .int a2), (3, .int a3)]) hx hb dX7_sheet_55 hl (by decide) rfl (fun ls hl => ?_)
          have key_57 : ∀ (x4_57 : Int32) (m57 : Mm), (lX7_sheet_57 a1 Q x4_57 m57) → Wc p l e ({ frames := 2, cells := 0, slots := 0, locals := 42 } : Room) s m args below meth c D cI cJ ad (MQ below (QiW D cI cJ ad Q) args s 0 0 (Fr ad)) 5 57 [(0, .ref (ad 32)), (1, .int a1), (4, .int x4_57)] m57 := by
            intro x4_57 m57 hL
            refine hL (fun x4_57 m57 => Wc p l e ({ frames := 2, cells := 0, slots := 0, locals := 42 } : Room) s m args below meth c D cI cJ ad (MQ below (QiW D cI cJ ad Q) args s 0 0 (Fr ad)) 5 57 [(0, .ref (ad 32)), (1, .int a1), (4, .int x4_57)] m57) ?_
            intro J_57 hJ_57 x4_57 m57 hF H locs ls hP hS hl
            unfold bX7_sheet_57 at hF
            refine lv_iload hx hb dX7_sheet_57 (lv_at hl 2 rfl) ?_
            refine lv_bipush (v := 60) hx hb dX7_sheet_59 (by decide) ?_
            refine lv_icmp_ge (tgt := 83) hx hb dX7_sheet_61 (by decide) (fun c_12 => ?_) (fun c_12 => ?_)
            · have hF := hF.1 c_12
              refine lv_iconst (v := 1) hx hb dX7_sheet_83 (by decide) ?_
              exact retI S hr hlocks hP hS hF dX7_sheet_84
            · have hF := hF.2 c_12
              refine lv_aload_n hx hb dX7_sheet_64 rfl (lv_at hl 0 rfl) ?_
              refine gF S hK hP i7 e_M rfl 6 (by decide) k16 f_M_cells dX7_sheet_65 ?_
              refine lv_bipush (v := 60) hx hb dX7_sheet_68 (by decide) ?_
              refine lv_iload_n hx hb dX7_sheet_70 rfl (lv_at hl 1 rfl) ?_
              refine lv_imul hx hb dX7_sheet_71 ?_
              refine lv_iload hx hb dX7_sheet_72 (lv_at hl 2 rfl) ?_
              refine lv_iadd hx hb dX7_sheet_74 ?_
              refine lv_iconst (v := 0) hx hb dX7_sheet_75 (by decide) ?_
              obtain ⟨hb_14, hF⟩ := hF
              refine stA S hK had hP hS (k := 35) rfl hb_14 dX7_sheet_76 (fun M_13 H locs eM_13 hP hS => ?_)
              have hF := hF M_13 eM_13
              refine lv_iinc (v := (x4_57 + 1)) (lv' := [(4, .int (x4_57 + 1)), (0, .ref (ad 32)), (1, .int a1)]) hx hb dX7_sheet_77 hl (k := 2) rfl rfl (by decide) rfl (fun ls hl => ?_)
              refine lv_goto (tgt := 57) hx hb dX7_sheet_80 (by decide) ?_
              exact hJ_57 _ _ hF _ _ _ hP hS (lv_sub hl [1, 2, 0] rfl)
          exact key_57 _ _ hF _ _ _ hP hS (lv_sub hl [1, 2, 0] rfl)
        · have hF := hF.2 c_7
          refine lv_aload_n hx hb dX7_sheet_34 rfl (lv_at hl 0 rfl) ?_
          refine lv_iconst (v := 4) hx hb dX7_sheet_35 (by decide) ?_
          refine goI (rV (rest := []) S hK hP (ctX7_fails l D cI cJ ad had (4 : Int32) _ _ hF) (cwV 1 hts gX7_sheet_X7_fails rfl rfl rfl hdV_X7_fails ⟨Nat.le_of_ble_eq_true rfl, Nat.le_of_ble_eq_true rfl⟩) e_M rfl rfl hl.1 rfl (Nat.le_of_ble_eq_true rfl) dX7_sheet_36 ⟨Nat.zero_le _, Nat.zero_le _⟩) hS (fun _ h => h) (fun r_15 M_15 H locs hP hS hF => ?_)
          exact retI S hr hlocks hP hS hF dX7_sheet_39
      · have hF := hF.2 c_6
        refine lv_bipush (v := -2) hx hb dX7_sheet_27 (by decide) ?_
        exact retI S hr hlocks hP hS hF dX7_sheet_29
  · have hF := hF.1 c_3
    refine lv_iconst (v := -1) hx hb dX7_sheet_12 (by decide) ?_
    exact retI S hr hlocks hP hS hF dX7_sheet_13
def wX7_lose (a1 : Int32) (Q : Int32 → Mm → Prop) (M : Mm) : Prop := (wX7_isSheet a1 (fun r_1 M_1 => ((r_1 = 0 → (Q (-1 : Int32) M_1)) ∧ (¬ r_1 = 0 → (vp_in a1 4 ∧ (((ga M_1 33 a1.toNatClampNeg) = (-9 : Int32) → (vp_in a1 4 ∧ (∀ M_7 : Mm, M_7 = (sa M_1 33 (upd (ga M_1 33) a1.toNatClampNeg (-9 : Int32))) → (Q (0 : Int32) M_7)))) ∧ (¬ (ga M_1 33 a1.toNatClampNeg) = (-9 : Int32) → (vp_in a1 4 ∧ (∀ M_5 : Mm, M_5 = (sa M_1 33 (upd (ga M_1 33) a1.toNatClampNeg (-9 : Int32))) → (Q (1 : Int32) M_5))))))))) M)
set_option maxHeartbeats 4000000 in
set_option maxRecDepth 100000 in
theorem ctX7_lose (l : Launch) (D : va_G) (cI cJ : ClassId) (ad : Nat → Nat) (had : inj54 ad) (a1 : Int32) (Q : Int32 → Mm → Prop) (M : Mm) (hF : wX7_lose a1 Q M) : Met l yX7_lose wsX7_lose ({ frames := 2, cells := 0, slots := 0, locals := 42 } : Room) (PcW D cI cJ ad M [.ref (ad 32), .int a1]) (QiW D cI cJ ad Q) 0 0 (Fr ad) := by
  refine entW (y := yX7_lose) (ret := some .int) (maxL := 3) (plainFor_of_name (by decide)) rfl (Nat.le_of_ble_eq_true rfl) ?_
  intro p e s m args below meth c ls S hK hr hlocks hP hS hl
  have hx := S.1
  have hb := S.2.1
  have hown := S.2.2.2.1
  have hts := S.2.2.2.2
  have i7 : ∀ w ∈ wsX70, w ∈ wsX7_lose := by decide +kernel
  have k9 := hts (.fieldLink RX7 9 "RopeLineModel" "lanes" "[I") (by decide +kernel)
  have hl : lv_has ls 3 [(0, .ref (ad 32)), (1, .int a1)] := hl
  unfold wX7_lose at hF
  refine lv_iload_n hx hb dX7_lose_0 rfl (lv_at hl 1 rfl) ?_
  refine goZ (rS (rest := []) S hK hP (ctX7_isSheet l D cI cJ ad had a1 _ _ hF) (va_cwS 1 hts gX7_lose_X7_isSheet rfl rfl rfl hdS_X7_isSheet ⟨Nat.le_of_ble_eq_true rfl, Nat.le_of_ble_eq_true rfl⟩) rfl hl.1 rfl (Nat.le_of_ble_eq_true rfl) dX7_lose_1 ⟨Nat.zero_le _, Nat.zero_le _⟩) hS (fun _ h => h) (fun r_1 M_1 H locs hP hS hz_r_1 hF => ?_)
  refine lv_if_ne (tgt := 9) hx hb dX7_lose_4 (by decide) (fun c_2 => ?_) (fun c_2 => ?_)
  · have hF := hF.2 c_2
    refine lv_aload_n hx hb dX7_lose_9 rfl (lv_at hl 0 rfl) ?_
    refine gF S hK hP i7 e_M rfl 4 (by decide) k9 f_M_lanes dX7_lose_10 ?_
    refine lv_iload_n hx hb dX7_lose_13 rfl (lv_at hl 1 rfl) ?_
    obtain ⟨hb_3, hF⟩ := hF
    refine ldA S hK hP (k := 33) rfl hb_3 dX7_lose_14 ?_
    refine lv_bipush (v := -9) hx hb dX7_lose_15 (by decide) ?_
    refine lv_icmp_ne (tgt := 24) hx hb dX7_lose_17 (by decide) (fun c_4 => ?_) (fun c_4 => ?_)
    · have hF := hF.2 c_4
      refine lv_iconst (v := 1) hx hb dX7_lose_24 (by decide) ?_
      refine lv_istore_n (lv' := [(2, .int (1 : Int32)), (0, .ref (ad 32)), (1, .int a1)]) hx hb dX7_lose_25 rfl hl (by decide) rfl (fun ls hl => ?_)
      refine lv_aload_n hx hb dX7_lose_26 rfl (lv_at hl 1 rfl) ?_
      refine gF S hK hP i7 e_M rfl 4 (by decide) k9 f_M_lanes dX7_lose_27 ?_
      refine lv_iload_n hx hb dX7_lose_30 rfl (lv_at hl 2 rfl) ?_
      refine lv_bipush (v := -9) hx hb dX7_lose_31 (by decide) ?_
      obtain ⟨hb_6, hF⟩ := hF
      refine stA S hK had hP hS (k := 33) rfl hb_6 dX7_lose_33 (fun M_5 H locs eM_5 hP hS => ?_)
      have hF := hF M_5 eM_5
      refine lv_iload_n hx hb dX7_lose_34 rfl (lv_at hl 0 rfl) ?_
      exact retI S hr hlocks hP hS hF dX7_lose_35
    · have hF := hF.1 c_4
      refine lv_iconst (v := 0) hx hb dX7_lose_20 (by decide) ?_
      refine lv_goto (tgt := 25) hx hb dX7_lose_21 (by decide) ?_
      refine lv_istore_n (lv' := [(2, .int (0 : Int32)), (0, .ref (ad 32)), (1, .int a1)]) hx hb dX7_lose_25 rfl hl (by decide) rfl (fun ls hl => ?_)
      refine lv_aload_n hx hb dX7_lose_26 rfl (lv_at hl 1 rfl) ?_
      refine gF S hK hP i7 e_M rfl 4 (by decide) k9 f_M_lanes dX7_lose_27 ?_
      refine lv_iload_n hx hb dX7_lose_30 rfl (lv_at hl 2 rfl) ?_
      refine lv_bipush (v := -9) hx hb dX7_lose_31 (by decide) ?_
      obtain ⟨hb_8, hF⟩ := hF
      refine stA S hK had hP hS (k := 33) rfl hb_8 dX7_lose_33 (fun M_7 H locs eM_7 hP hS => ?_)
      have hF := hF M_7 eM_7
      refine lv_iload_n hx hb dX7_lose_34 rfl (lv_at hl 0 rfl) ?_
      exact retI S hr hlocks hP hS hF dX7_lose_35
  · have hF := hF.1 c_2
    refine lv_iconst (v := -1) hx hb dX7_lose_7 (by decide) ?_
    exact retI S hr hlocks hP hS hF dX7_lose_8
def wX7_put (a1 : Int32) (a2 : Int32) (a3 : Int32) (Q : Int32 → Mm → Prop) (M : Mm) : Prop := (∀ M_1 : Mm, M_1 = (si M 26 (0 : Int32)) → (wX7_isSheet a1 (fun r_2 M_2 => ((r_2 = 0 → (Q (-1 : Int32) M_2)) ∧ (¬ r_2 = 0 → (vp_in a1 4 ∧ (((ga M_2 33 a1.toNatClampNeg) = (-9 : Int32) → (wX7_fails (1 : Int32) (fun r_20 M_20 => (Q r_20 M_20)) M_2)) ∧ (¬ (ga M_2 33 a1.toNatClampNeg) = (-9 : Int32) → (vp_in a1 4 ∧ (wX7_within a2 (0 : Int32) ((ga M_2 34 a1.toNatClampNeg) - (1 : Int32)) (fun r_7 M_7 => ((r_7 = 0 → (wX7_fails (3 : Int32) (fun r_19 M_19 => (Q r_19 M_19)) M_7)) ∧ (¬ r_7 = 0 → (vp_in a1 4 ∧ (((ga M_7 33 a1.toNatClampNeg) = 0 → (vp_in (((60 : Int32) * a1) + a2) 240 ∧ (∀ M_17 : Mm, M_17 = (sa M_7 35 (upd (ga M_7 35) (((60 : Int32) * a1) + a2).toNatClampNeg (a3.toInt8.toInt32))) → (Q (1 : Int32) M_17)))) ∧ (¬ (ga M_7 33 a1.toNatClampNeg) = 0 → (vp_in a1 4 ∧ (((ga M_7 33 a1.toNatClampNeg) = (1 : Int32) → (vp_in (((60 : Int32) * a1) + a2) 240 ∧ (∀ M_15 : Mm, M_15 = (sa M_7 35 (upd (ga M_7 35) (((60 : Int32) * a1) + a2).toNatClampNeg (a3.toInt16.toInt32))) → (Q (1 : Int32) M_15)))) ∧ (¬ (ga M_7 33 a1.toNatClampNeg) = (1 : Int32) → (vp_in (((60 : Int32) * a1) + a2) 240 ∧ (∀ M_13 : Mm, M_13 = (sa M_7 35 (upd (ga M_7 35) (((60 : Int32) * a1) + a2).toNatClampNeg a3)) → (Q (1 : Int32) M_13)))))))))))) M_2)))))))) M_1))
set_option maxHeartbeats 4000000 in
set_option maxRecDepth 100000 in
theorem ctX7_put (l : Launch) (D : va_G) (cI cJ : ClassId) (ad : Nat → Nat) (had : inj54 ad) (a1 : Int32) (a2 : Int32) (a3 : Int32) (Q : Int32 → Mm → Prop) (M : Mm) (hF : wX7_put a1 a2 a3 Q M) : Met l yX7_put wsX7_put ({ frames := 2, cells := 0, slots := 0, locals := 42 } : Room) (PcW D cI cJ ad M [.ref (ad 32), .int a1, .int a2, .int a3]) (QiW D cI cJ ad Q) 0 0 (Fr ad) := by
  refine entW (y := yX7_put) (ret := some .int) (maxL := 4) (plainFor_of_name (by decide)) rfl (Nat.le_of_ble_eq_true rfl) ?_
  intro p e s m args below meth c ls S hK hr hlocks hP hS hl
  have hx := S.1
  have hb := S.2.1
  have hown := S.2.2.2.1
  have hts := S.2.2.2.2
  have i7 : ∀ w ∈ wsX70, w ∈ wsX7_put := by decide +kernel
  have k74 := hts (.fieldLink RX7 74 "RopeLineModel" "fault" "I") (by decide +kernel)
  have k9 := hts (.fieldLink RX7 9 "RopeLineModel" "lanes" "[I") (by decide +kernel)
  have k13 := hts (.fieldLink RX7 13 "RopeLineModel" "sheetLong" "[I") (by decide +kernel)
  have k16 := hts (.fieldLink RX7 16 "RopeLineModel" "cells" "[I") (by decide +kernel)
  have hl : lv_has ls 4 [(0, .ref (ad 32)), (1, .int a1), (2, .int a2), (3, .int a3)] := hl
  unfold wX7_put at hF
  refine lv_aload_n hx hb dX7_put_0 rfl (lv_at hl 0 rfl) ?_
  refine lv_iconst (v := 0) hx hb dX7_put_1 (by decide) ?_
  refine pF S hK had hP hS i7 tyX7_ok nmX7 e_M rfl 0 (by decide) k74 rfl rfl rfl (Nat.lt_of_lt_of_eq (by decide) len_M.symm) s_M_fault dX7_put_2 (fun M_1 H locs eM_1 hP hS => ?_)
  have hF := hF M_1 eM_1
  refine lv_iload_n hx hb dX7_put_5 rfl (lv_at hl 1 rfl) ?_
  refine goZ (rS (rest := []) S hK hP (ctX7_isSheet l D cI cJ ad had a1 _ _ hF) (va_cwS 1 hts gX7_put_X7_isSheet rfl rfl rfl hdS_X7_isSheet ⟨Nat.le_of_ble_eq_true rfl, Nat.le_of_ble_eq_true rfl⟩) rfl hl.1 rfl (Nat.le_of_ble_eq_true rfl) dX7_put_6 ⟨Nat.zero_le _, Nat.zero_le _⟩) hS (fun _ h => h) (fun r_2 M_2 H locs hP hS hz_r_2 hF => ?_)
  refine lv_if_ne (tgt := 14) hx hb dX7_put_9 (by decide) (fun c_3 => ?_) (fun c_3 => ?_)
  · have hF := hF.2 c_3
    refine lv_aload_n hx hb dX7_put_14 rfl (lv_at hl 0 rfl) ?_
    refine gF S hK hP i7 e_M rfl 4 (by decide) k9 f_M_lanes dX7_put_15 ?_
    refine lv_iload_n hx hb dX7_put_18 rfl (lv_at hl 1 rfl) ?_
    obtain ⟨hb_4, hF⟩ := hF
    refine ldA S hK hP (k := 33) rfl hb_4 dX7_put_19 ?_
    refine lv_bipush (v := -9) hx hb dX7_put_20 (by decide) ?_
    refine lv_icmp_ne (tgt := 31) hx hb dX7_put_22 (by decide) (fun c_5 => ?_) (fun c_5 => ?_)
    · have hF := hF.2 c_5
      refine lv_iload_n hx hb dX7_put_31 rfl (lv_at hl 2 rfl) ?_
      refine lv_iconst (v := 0) hx hb dX7_put_32 (by decide) ?_
      refine lv_aload_n hx hb dX7_put_33 rfl (lv_at hl 0 rfl) ?_
      refine gF S hK hP i7 e_M rfl 5 (by decide) k13 f_M_sheetLong dX7_put_34 ?_
      refine lv_iload_n hx hb dX7_put_37 rfl (lv_at hl 1 rfl) ?_
      obtain ⟨hb_6, hF⟩ := hF
      refine ldA S hK hP (k := 34) rfl hb_6 dX7_put_38 ?_
      refine lv_iconst (v := 1) hx hb dX7_put_39 (by decide) ?_
      refine lv_isub hx hb dX7_put_40 ?_
      refine goZ (rS (rest := []) S hK hP (ctX7_within l D cI cJ ad had a2 (0 : Int32) ((ga M_2 34 a1.toNatClampNeg) - (1 : Int32)) _ _ hF) (va_cwS 3 hts gX7_put_X7_within rfl rfl rfl hdS_X7_within ⟨Nat.le_of_ble_eq_true rfl, Nat.le_of_ble_eq_true rfl⟩) rfl hl.1 rfl (Nat.le_of_ble_eq_true rfl) dX7_put_41 ⟨Nat.zero_le _, Nat.zero_le _⟩) hS (fun _ h => h) (fun r_7 M_7 H locs hP hS hz_r_7 hF => ?_)
      refine lv_if_ne (tgt := 53) hx hb dX7_put_44 (by decide) (fun c_8 => ?_) (fun c_8 => ?_)
      · have hF := hF.2 c_8
        refine lv_aload_n hx hb dX7_put_53 rfl (lv_at hl 0 rfl) ?_
        refine gF S hK hP i7 e_M rfl 6 (by decide) k16 f_M_cells dX7_put_54 ?_
        refine lv_bipush (v := 60) hx hb dX7_put_57 (by decide) ?_
        refine lv_iload_n hx hb dX7_put_59 rfl (lv_at hl 1 rfl) ?_
        refine lv_imul hx hb dX7_put_60 ?_
        refine lv_iload_n hx hb dX7_put_61 rfl (lv_at hl 2 rfl) ?_
        refine lv_iadd hx hb dX7_put_62 ?_
        refine lv_aload_n hx hb dX7_put_63 rfl (lv_at hl 0 rfl) ?_
        refine gF S hK hP i7 e_M rfl 4 (by decide) k9 f_M_lanes dX7_put_64 ?_
        refine lv_iload_n hx hb dX7_put_67 rfl (lv_at hl 1 rfl) ?_
        obtain ⟨hb_9, hF⟩ := hF
        refine ldA S hK hP (k := 33) rfl hb_9 dX7_put_68 ?_
        refine lv_if_ne (tgt := 77) hx hb dX7_put_69 (by decide) (fun c_10 => ?_) (fun c_10 => ?_)
        · have hF := hF.2 c_10
          refine lv_aload_n hx hb dX7_put_77 rfl (lv_at hl 0 rfl) ?_
          refine gF S hK hP i7 e_M rfl 4 (by decide) k9 f_M_lanes dX7_put_78 ?_
          refine lv_iload_n hx hb dX7_put_81 rfl (lv_at hl 1 rfl) ?_
          obtain ⟨hb_11, hF⟩ := hF
          refine ldA S hK hP (k := 33) rfl hb_11 dX7_put_82 ?_
          refine lv_iconst (v := 1) hx hb dX7_put_83 (by decide) ?_
          refine lv_icmp_ne (tgt := 92) hx hb dX7_put_84 (by decide) (fun c_12 => ?_) (fun c_12 => ?_)
          · have hF := hF.2 c_12
            refine lv_iload_n hx hb dX7_put_92 rfl (lv_at hl 3 rfl) ?_
            obtain ⟨hb_14, hF⟩ := hF
            refine stA S hK had hP hS (k := 35) rfl hb_14 dX7_put_93 (fun M_13 H locs eM_13 hP hS => ?_)
            have hF := hF M_13 eM_13
            refine lv_iconst (v := 1) hx hb dX7_put_94 (by decide) ?_
            exact retI S hr hlocks hP hS hF dX7_put_95
          · have hF := hF.1 c_12
            refine lv_iload_n hx hb dX7_put_87 rfl (lv_at hl 3 rfl) ?_
            refine lv_i2s hx hb dX7_put_88 rfl ?_
            refine lv_goto (tgt := 93) hx hb dX7_put_89 (by decide) ?_
            obtain ⟨hb_16, hF⟩ := hF
            refine stA S hK had hP hS (k := 35) rfl hb_16 dX7_put_93 (fun M_15 H locs eM_15 hP hS => ?_)
            have hF := hF M_15 eM_15
            refine lv_iconst (v := 1) hx hb dX7_put_94 (by decide) ?_
            exact retI S hr hlocks hP hS hF dX7_put_95
        · have hF := hF.1 c_10
          refine lv_iload_n hx hb dX7_put_72 rfl (lv_at hl 3 rfl) ?_
          refine lv_i2b hx hb dX7_put_73 rfl ?_
          refine lv_goto (tgt := 93) hx hb dX7_put_74 (by decide) ?_
          obtain ⟨hb_18, hF⟩ := hF
          refine stA S hK had hP hS (k := 35) rfl hb_18 dX7_put_93 (fun M_17 H locs eM_17 hP hS => ?_)
          have hF := hF M_17 eM_17
          refine lv_iconst (v := 1) hx hb dX7_put_94 (by decide) ?_
          exact retI S hr hlocks hP hS hF dX7_put_95
      · have hF := hF.1 c_8
        refine lv_aload_n hx hb dX7_put_47 rfl (lv_at hl 0 rfl) ?_
        refine lv_iconst (v := 3) hx hb dX7_put_48 (by decide) ?_
        refine goI (rV (rest := []) S hK hP (ctX7_fails l D cI cJ ad had (3 : Int32) _ _ hF) (cwV 1 hts gX7_put_X7_fails rfl rfl rfl hdV_X7_fails ⟨Nat.le_of_ble_eq_true rfl, Nat.le_of_ble_eq_true rfl⟩) e_M rfl rfl hl.1 rfl (Nat.le_of_ble_eq_true rfl) dX7_put_49 ⟨Nat.zero_le _, Nat.zero_le _⟩) hS (fun _ h => h) (fun r_19 M_19 H locs hP hS hF => ?_)
        exact retI S hr hlocks hP hS hF dX7_put_52
    · have hF := hF.1 c_5
      refine lv_aload_n hx hb dX7_put_25 rfl (lv_at hl 0 rfl) ?_
      refine lv_iconst (v := 1) hx hb dX7_put_26 (by decide) ?_
      refine goI (rV (rest := []) S hK hP (ctX7_fails l D cI cJ ad had (1 : Int32) _ _ hF) (cwV 1 hts gX7_put_X7_fails rfl rfl rfl hdV_X7_fails ⟨Nat.le_of_ble_eq_true rfl, Nat.le_of_ble_eq_true rfl⟩) e_M rfl rfl hl.1 rfl (Nat.le_of_ble_eq_true rfl) dX7_put_27 ⟨Nat.zero_le _, Nat.zero_le _⟩) hS (fun _ h => h) (fun r_20 M_20 H locs hP hS hF => ?_)
      exact retI S hr hlocks hP hS hF dX7_put_30
  · have hF := hF.1 c_3
    refine lv_iconst (v := -1) hx hb dX7_put_12 (by decide) ?_
    exact retI S hr hlocks hP hS hF dX7_put_13
def wX7_cell (a1 : Int32) (a2 : Int32) (a3 : Int32) (Q : Int64 → Mm → Prop) (M : Mm) : Prop := (∀ M_1 : Mm, M_1 = (si M 26 (0 : Int32)) → (wX7_isSheet a1 (fun r_2 M_2 => ((r_2 = 0 → (Q (-9223372036854775808 : Int64) M_2)) ∧ (¬ r_2 = 0 → (wX7_isLane a3 (fun r_4 M_4 => ((r_4 = 0 → (Q (-9223372036854775808 : Int64) M_4)) ∧ (¬ r_4 = 0 → (vp_in a1 4 ∧ (((ga M_4 33 a1.toNatClampNeg) = (-9 : Int32) → (vp_in a1 4 ∧ (((ga M_4 33 a1.toNatClampNeg) = (-9 : Int32) → (wX7_lost (1 : Int32) (fun r_15 M_15 => (Q r_15 M_15)) M_4)) ∧ (¬ (ga M_4 33 a1.toNatClampNeg) = (-9 : Int32) → (vp_in a1 4 ∧ (wX7_within a2 (0 : Int32) ((ga M_4 34 a1.toNatClampNeg) - (1 : Int32)) (fun r_11 M_11 => ((r_11 = 0 → (wX7_lost (3 : Int32) (fun r_14 M_14 => (Q r_14 M_14)) M_11)) ∧ (¬ r_11 = 0 → (vp_in (((60 : Int32) * a1) + a2) 240 ∧ (Q ((ga M_11 35 (((60 : Int32) * a1) + a2).toNatClampNeg).toInt64) M_11))))) M_4)))))) ∧ (¬ (ga M_4 33 a1.toNatClampNeg) = (-9 : Int32) → (vp_in a1 4 ∧ (((ga M_4 33 a1.toNatClampNeg) = a3 → (vp_in a1 4 ∧ (((ga M_4 33 a1.toNatClampNeg) = (-9 : Int32) → (wX7_lost (1 : Int32) (fun r_25 M_25 => (Q r_25 M_25)) M_4)) ∧ (¬ (ga M_4 33 a1.toNatClampNeg) = (-9 : Int32) → (vp_in a1 4 ∧ (wX7_within a2 (0 : Int32) ((ga M_4 34 a1.toNatClampNeg) - (1 : Int32)) (fun r_21 M_21 => ((r_21 = 0 → (wX7_lost (3 : Int32) (fun r_24 M_24 => (Q r_24 M_24)) M_21)) ∧ (¬ r_21 = 0 → (vp_in (((60 : Int32) * a1) + a2) 240 ∧ (Q ((ga M_21 35 (((60 : Int32) * a1) + a2).toNatClampNeg).toInt64) M_21))))) M_4)))))) ∧ (¬ (ga M_4 33 a1.toNatClampNeg) = a3 → (wX7_lost (2 : Int32) (fun r_26 M_26 => (Q r_26 M_26)) M_4)))))))))) M_2)))) M_1))
set_option maxHeartbeats 4000000 in
set_option maxRecDepth 100000 in
theorem ctX7_cell (l : Launch) (D : va_G) (cI cJ : ClassId) (ad : Nat → Nat) (had : inj54 ad) (a1 : Int32) (a2 : Int32) (a3 : Int32) (Q : Int64 → Mm → Prop) (M : Mm) (hF : wX7_cell a1 a2 a3 Q M) : Met l yX7_cell wsX7_cell ({ frames := 2, cells := 0, slots := 0, locals := 42 } : Room) (PcW D cI cJ ad M [.ref (ad 32), .int a1, .int a2, .int a3]) (QlW D cI cJ ad Q) 0 0 (Fr ad) := by
  refine entW (y := yX7_cell) (ret := some .long) (maxL := 4) (plainFor_of_name (by decide)) rfl (Nat.le_of_ble_eq_true rfl) ?_
  intro p e s m args below meth c ls S hK hr hlocks hP hS hl
  have hx := S.1
  have hb := S.2.1
  have hown := S.2.2.2.1
  have hts := S.2.2.2.2
  have i7 : ∀ w ∈ wsX70, w ∈ wsX7_cell := by decide +kernel
  have k74 := hts (.fieldLink RX7 74 "RopeLineModel" "fault" "I") (by decide +kernel)
  have k9 := hts (.fieldLink RX7 9 "RopeLineModel" "lanes" "[I") (by decide +kernel)
  have k13 := hts (.fieldLink RX7 13 "RopeLineModel" "sheetLong" "[I") (by decide +kernel)
  have k16 := hts (.fieldLink RX7 16 "RopeLineModel" "cells" "[I") (by decide +kernel)
  have hl : lv_has ls 4 [(0, .ref (ad 32)), (1, .int a1), (2, .int a2), (3, .int a3)] := hl
  unfold wX7_cell at hF
  refine lv_aload_n hx hb dX7_cell_0 rfl (lv_at hl 0 rfl) ?_
  refine lv_iconst (v := 0) hx hb dX7_cell_1 (by decide) ?_
  refine pF S hK had hP hS i7 tyX7_ok nmX7 e_M rfl 0 (by decide) k74 rfl rfl rfl (Nat.lt_of_lt_of_eq (by decide) len_M.symm) s_M_fault dX7_cell_2 (fun M_1 H locs eM_1 hP hS => ?_)
  have hF := hF M_1 eM_1
  refine lv_iload_n hx hb dX7_cell_5 rfl (lv_at hl 1 rfl) ?_
  refine goZ (rS (rest := []) S hK hP (ctX7_isSheet l D cI cJ ad had a1 _ _ hF) (va_cwS 1 hts gX7_cell_X7_isSheet rfl rfl rfl hdS_X7_isSheet ⟨Nat.le_of_ble_eq_true rfl, Nat.le_of_ble_eq_true rfl⟩) rfl hl.1 rfl (Nat.le_of_ble_eq_true rfl) dX7_cell_6 ⟨Nat.zero_le _, Nat.zero_le _⟩) hS (fun _ h => h) (fun r_2 M_2 H locs hP hS hz_r_2 hF => ?_)
  refine lv_if_eq (tgt := 19) hx hb dX7_cell_9 (by decide) (fun c_3 => ?_) (fun c_3 => ?_)
  · have hF := hF.1 c_3
    refine lv_ldc2 (v := -9223372036854775808) hx hb hown (hts (.constantLong RX7 78 (-9223372036854775808)) (by decide +kernel)) dX7_cell_19 ?_
    exact retL S hr hlocks hP hS hF dX7_cell_22
  · have hF := hF.2 c_3
    refine lv_iload_n hx hb dX7_cell_12 rfl (lv_at hl 3 rfl) ?_
    refine goZ (rS (rest := []) S hK hP (ctX7_isLane l D cI cJ ad had a3 _ _ hF) (va_cwS 1 hts gX7_cell_X7_isLane rfl rfl rfl hdS_X7_isLane ⟨Nat.le_of_ble_eq_true rfl, Nat.le_of_ble_eq_true rfl⟩) rfl hl.1 rfl (Nat.le_of_ble_eq_true rfl) dX7_cell_13 ⟨Nat.zero_le _, Nat.zero_le _⟩) hS (fun _ h => h) (fun r_4 M_4 H locs hP hS hz_r_4 hF => ?_)
    refine lv_if_ne (tgt := 23) hx hb dX7_cell_16 (by decide) (fun c_5 => ?_) (fun c_5 => ?_)
    · have hF := hF.2 c_5
      refine lv_aload_n hx hb dX7_cell_23 rfl (lv_at hl 0 rfl) ?_
      refine gF S hK hP i7 e_M rfl 4 (by decide) k9 f_M_lanes dX7_cell_24 ?_
      refine lv_iload_n hx hb dX7_cell_27 rfl (lv_at hl 1 rfl) ?_
      obtain ⟨hb_6, hF⟩ := hF
      refine ldA S hK hP (k := 33) rfl hb_6 dX7_cell_28 ?_
      refine lv_bipush (v := -9) hx hb dX7_cell_29 (by decide) ?_
      refine lv_icmp_eq (tgt := 50) hx hb dX7_cell_31 (by decide) (fun c_7 => ?_) (fun c_7 => ?_)
      · have hF := hF.1 c_7
        refine lv_aload_n hx hb dX7_cell_50 rfl (lv_at hl 0 rfl) ?_
        refine gF S hK hP i7 e_M rfl 4 (by decide) k9 f_M_lanes dX7_cell_51 ?_
        refine lv_iload_n hx hb dX7_cell_54 rfl (lv_at hl 1 rfl) ?_
        obtain ⟨hb_8, hF⟩ := hF
        refine ldA S hK hP (k := 33) rfl hb_8 dX7_cell_55 ?_
        refine lv_bipush (v := -9) hx hb dX7_cell_56 (by decide) ?_
        refine lv_icmp_ne (tgt := 67) hx hb dX7_cell_58 (by decide) (fun c_9 => ?_) (fun c_9 => ?_)
        · have hF := hF.2 c_9
          refine lv_iload_n hx hb dX7_cell_67 rfl (lv_at hl 2 rfl) ?_
          refine lv_iconst (v := 0) hx hb dX7_cell_68 (by decide) ?_
          refine lv_aload_n hx hb dX7_cell_69 rfl (lv_at hl 0 rfl) ?_
          refine gF S hK hP i7 e_M rfl 5 (by decide) k13 f_M_sheetLong dX7_cell_70 ?_
          refine lv_iload_n hx hb dX7_cell_73 rfl (lv_at hl 1 rfl) ?_
          obtain ⟨hb_10, hF⟩ := hF
          refine ldA S hK hP (k := 34) rfl hb_10 dX7_cell_74 ?_
          refine lv_iconst (v := 1) hx hb dX7_cell_75 (by decide) ?_
          refine lv_isub hx hb dX7_cell_76 ?_
          refine goZ (rS (rest := []) S hK hP (ctX7_within l D cI cJ ad had a2 (0 : Int32) ((ga M_4 34 a1.toNatClampNeg) - (1 : Int32)) _ _ hF) (va_cwS 3 hts gX7_cell_X7_within rfl rfl rfl hdS_X7_within ⟨Nat.le_of_ble_eq_true rfl, Nat.le_of_ble_eq_true rfl⟩) rfl hl.1 rfl (Nat.le_of_ble_eq_true rfl) dX7_cell_77 ⟨Nat.zero_le _, Nat.zero_le _⟩) hS (fun _ h => h) (fun r_11 M_11 H locs hP hS hz_r_11 hF => ?_)
          refine lv_if_ne (tgt := 89) hx hb dX7_cell_80 (by decide) (fun c_12 => ?_) (fun c_12 => ?_)
          · have hF := hF.2 c_12
            refine lv_aload_n hx hb dX7_cell_89 rfl (lv_at hl 0 rfl) ?_
            refine gF S hK hP i7 e_M rfl 6 (by decide) k16 f_M_cells dX7_cell_90 ?_
            refine lv_bipush (v := 60) hx hb dX7_cell_93 (by decide) ?_
            refine lv_iload_n hx hb dX7_cell_95 rfl (lv_at hl 1 rfl) ?_
            refine lv_imul hx hb dX7_cell_96 ?_
            refine lv_iload_n hx hb dX7_cell_97 rfl (lv_at hl 2 rfl) ?_
            refine lv_iadd hx hb dX7_cell_98 ?_
            obtain ⟨hb_13, hF⟩ := hF
            refine ldA S hK hP (k := 35) rfl hb_13 dX7_cell_99 ?_
            refine lv_i2l hx hb dX7_cell_100 rfl ?_
            exact retL S hr hlocks hP hS hF dX7_cell_101
          · have hF := hF.1 c_12
            refine lv_aload_n hx hb dX7_cell_83 rfl (lv_at hl 0 rfl) ?_
            refine lv_iconst (v := 3) hx hb dX7_cell_84 (by decide) ?_
            refine goL (rV (rest := []) S hK hP (ctX7_lost l D cI cJ ad had (3 : Int32) _ _ hF) (cwV 1 hts gX7_cell_X7_lost rfl rfl rfl hdV_X7_lost ⟨Nat.le_of_ble_eq_true rfl, Nat.le_of_ble_eq_true rfl⟩) e_M rfl rfl hl.1 rfl (Nat.le_of_ble_eq_true rfl) dX7_cell_85 ⟨Nat.zero_le _, Nat.zero_le _⟩) hS (fun _ h => h) (fun r_14 M_14 H locs hP hS hF => ?_)
            exact retL S hr hlocks hP hS hF dX7_cell_88
        · have hF := hF.1 c_9
          refine lv_aload_n hx hb dX7_cell_61 rfl (lv_at hl 0 rfl) ?_
          refine lv_iconst (v := 1) hx hb dX7_cell_62 (by decide) ?_
          refine goL (rV (rest := []) S hK hP (ctX7_lost l D cI cJ ad had (1 : Int32) _ _ hF) (cwV 1 hts gX7_cell_X7_lost rfl rfl rfl hdV_X7_lost ⟨Nat.le_of_ble_eq_true rfl, Nat.le_of_ble_eq_true rfl⟩) e_M rfl rfl hl.1 rfl (Nat.le_of_ble_eq_true rfl) dX7_cell_63 ⟨Nat.zero_le _, Nat.zero_le _⟩) hS (fun _ h => h) (fun r_15 M_15 H locs hP hS hF => ?_)
          exact retL S hr hlocks hP hS hF dX7_cell_66
      · have hF := hF.2 c_7
        refine lv_aload_n hx hb dX7_cell_34 rfl (lv_at hl 0 rfl) ?_
        refine gF S hK hP i7 e_M rfl 4 (by decide) k9 f_M_lanes dX7_cell_35 ?_
        refine lv_iload_n hx hb dX7_cell_38 rfl (lv_at hl 1 rfl) ?_
        obtain ⟨hb_16, hF⟩ := hF
        refine ldA S hK hP (k := 33) rfl hb_16 dX7_cell_39 ?_
        refine lv_iload_n hx hb dX7_cell_40 rfl (lv_at hl 3 rfl) ?_
        refine lv_icmp_eq (tgt := 50) hx hb dX7_cell_41 (by decide) (fun c_17 => ?_) (fun c_17 => ?_)
        · have hF := hF.1 c_17
          refine lv_aload_n hx hb dX7_cell_50 rfl (lv_at hl 0 rfl) ?_
          refine gF S hK hP i7 e_M rfl 4 (by decide) k9 f_M_lanes dX7_cell_51 ?_
          refine lv_iload_n hx hb dX7_cell_54 rfl (lv_at hl 1 rfl) ?_
          obtain ⟨hb_18, hF⟩ := hF
          refine ldA S hK hP (k := 33) rfl hb_18 dX7_cell_55 ?_
          refine lv_bipush (v := -9) hx hb dX7_cell_56 (by decide) ?_
          refine lv_icmp_ne (tgt := 67) hx hb dX7_cell_58 (by decide) (fun c_19 => ?_) (fun c_19 => ?_)
          · have hF := hF.2 c_19
            refine lv_iload_n hx hb dX7_cell_67 rfl (lv_at hl 2 rfl) ?_
            refine lv_iconst (v := 0) hx hb dX7_cell_68 (by decide) ?_
            refine lv_aload_n hx hb dX7_cell_69 rfl (lv_at hl 0 rfl) ?_
            refine gF S hK hP i7 e_M rfl 5 (by decide) k13 f_M_sheetLong dX7_cell_70 ?_
            refine lv_iload_n hx hb dX7_cell_73 rfl (lv_at hl 1 rfl) ?_
            obtain ⟨hb_20, hF⟩ := hF
            refine ldA S hK hP (k := 34) rfl hb_20 dX7_cell_74 ?_
            refine lv_iconst (v := 1) hx hb dX7_cell_75 (by decide) ?_
            refine lv_isub hx hb dX7_cell_76 ?_
            refine goZ (rS (rest := []) S hK hP (ctX7_within l D cI cJ ad had a2 (0 : Int32) ((ga M_4 34 a1.toNatClampNeg) - (1 : Int32)) _ _ hF) (va_cwS 3 hts gX7_cell_X7_within rfl rfl rfl hdS_X7_within ⟨Nat.le_of_ble_eq_true rfl, Nat.le_of_ble_eq_true rfl⟩) rfl hl.1 rfl (Nat.le_of_ble_eq_true rfl) dX7_cell_77 ⟨Nat.zero_le _, Nat.zero_le _⟩) hS (fun _ h => h) (fun r_21 M_21 H locs hP hS hz_r_21 hF => ?_)
            refine lv_if_ne (tgt := 89) hx hb dX7_cell_80 (by decide) (fun c_22 => ?_) (fun c_22 => ?_)
            · have hF := hF.2 c_22
              refine lv_aload_n hx hb dX7_cell_89 rfl (lv_at hl 0 rfl) ?_
              refine gF S hK hP i7 e_M rfl 6 (by decide) k16 f_M_cells dX7_cell_90 ?_
              refine lv_bipush (v := 60) hx hb dX7_cell_93 (by decide) ?_
              refine lv_iload_n hx hb dX7_cell_95 rfl (lv_at hl 1 rfl) ?_
              refine lv_imul hx hb dX7_cell_96 ?_
              refine lv_iload_n hx hb dX7_cell_97 rfl (lv_at hl 2 rfl) ?_
              refine lv_iadd hx hb dX7_cell_98 ?_
              obtain ⟨hb_23, hF⟩ := hF
              refine ldA S hK hP (k := 35) rfl hb_23 dX7_cell_99 ?_
              refine lv_i2l hx hb dX7_cell_100 rfl ?_
              exact retL S hr hlocks hP hS hF dX7_cell_101
            · have hF := hF.1 c_22
              refine lv_aload_n hx hb dX7_cell_83 rfl (lv_at hl 0 rfl) ?_
              refine lv_iconst (v := 3) hx hb dX7_cell_84 (by decide) ?_
              refine goL (rV (rest := []) S hK hP (ctX7_lost l D cI cJ ad had (3 : Int32) _ _ hF) (cwV 1 hts gX7_cell_X7_lost rfl rfl rfl hdV_X7_lost ⟨Nat.le_of_ble_eq_true rfl, Nat.le_of_ble_eq_true rfl⟩) e_M rfl rfl hl.1 rfl (Nat.le_of_ble_eq_true rfl) dX7_cell_85 ⟨Nat.zero_le _, Nat.zero_le _⟩) hS (fun _ h => h) (fun r_24 M_24 H locs hP hS hF => ?_)
              exact retL S hr hlocks hP hS hF dX7_cell_88
          · have hF := hF.1 c_19
            refine lv_aload_n hx hb dX7_cell_61 rfl (lv_at hl 0 rfl) ?_
            refine lv_iconst (v := 1) hx hb dX7_cell_62 (by decide) ?_
            refine goL (rV (rest := []) S hK hP (ctX7_lost l D cI cJ ad had (1 : Int32) _ _ hF) (cwV 1 hts gX7_cell_X7_lost rfl rfl rfl hdV_X7_lost ⟨Nat.le_of_ble_eq_true rfl, Nat.le_of_ble_eq_true rfl⟩) e_M rfl rfl hl.1 rfl (Nat.le_of_ble_eq_true rfl) dX7_cell_63 ⟨Nat.zero_le _, Nat.zero_le _⟩) hS (fun _ h => h) (fun r_25 M_25 H locs hP hS hF => ?_)
            exact retL S hr hlocks hP hS hF dX7_cell_66
        · have hF := hF.2 c_17
          refine lv_aload_n hx hb dX7_cell_44 rfl (lv_at hl 0 rfl) ?_
          refine lv_iconst (v := 2) hx hb dX7_cell_45 (by decide) ?_
          refine goL (rV (rest := []) S hK hP (ctX7_lost l D cI cJ ad had (2 : Int32) _ _ hF) (cwV 1 hts gX7_cell_X7_lost rfl rfl rfl hdV_X7_lost ⟨Nat.le_of_ble_eq_true rfl, Nat.le_of_ble_eq_true rfl⟩) e_M rfl rfl hl.1 rfl (Nat.le_of_ble_eq_true rfl) dX7_cell_46 ⟨Nat.zero_le _, Nat.zero_le _⟩) hS (fun _ h => h) (fun r_26 M_26 H locs hP hS hF => ?_)
          exact retL S hr hlocks hP hS hF dX7_cell_49
    · have hF := hF.1 c_5
      refine lv_ldc2 (v := -9223372036854775808) hx hb hown (hts (.constantLong RX7 78 (-9223372036854775808)) (by decide +kernel)) dX7_cell_19 ?_
      exact retL S hr hlocks hP hS hF dX7_cell_22
def wX7_begins (a1 : Int32) (Q : Mm → Prop) (M : Mm) : Prop := (∀ M_1 : Mm, M_1 = (si M 27 (((31 : Int32) * (gi M 27)) + a1)) → (Q M_1))
set_option maxHeartbeats 4000000 in
set_option maxRecDepth 100000 in
theorem ctX7_begins (l : Launch) (D : va_G) (cI cJ : ClassId) (ad : Nat → Nat) (had : inj54 ad) (a1 : Int32) (Q : Mm → Prop) (M : Mm) (hF : wX7_begins a1 Q M) : Met l yX7_begins wsX7_begins ({ frames := 0, cells := 0, slots := 0, locals := 0 } : Room) (PcW D cI cJ ad M [.ref (ad 32), .int a1]) (QvW D cI cJ ad Q) 0 0 (Fr ad) := by
  refine entW (y := yX7_begins) (ret := none) (maxL := 2) (plainFor_of_name (by decide)) rfl (Nat.le_of_ble_eq_true rfl) ?_
  intro p e s m args below meth c ls S hK hr hlocks hP hS hl
  have hx := S.1
  have hb := S.2.1
  have hown := S.2.2.2.1
  have hts := S.2.2.2.2
  have i7 : ∀ w ∈ wsX70, w ∈ wsX7_begins := by decide +kernel
  have k257 := hts (.fieldLink RX7 257 "RopeLineModel" "trace" "I") (by decide +kernel)
  have hl : lv_has ls 2 [(0, .ref (ad 32)), (1, .int a1)] := hl
  unfold wX7_begins at hF
  refine lv_aload_n hx hb dX7_begins_0 rfl (lv_at hl 0 rfl) ?_
  refine lv_bipush (v := 31) hx hb dX7_begins_1 (by decide) ?_
  refine lv_aload_n hx hb dX7_begins_3 rfl (lv_at hl 0 rfl) ?_
  refine gF S hK hP i7 e_M rfl 1 (by decide) k257 f_M_trace dX7_begins_4 ?_
  refine lv_imul hx hb dX7_begins_7 ?_
  refine lv_iload_n hx hb dX7_begins_8 rfl (lv_at hl 1 rfl) ?_
  refine lv_iadd hx hb dX7_begins_9 ?_
  refine pF S hK had hP hS i7 tyX7_ok nmX7 e_M rfl 1 (by decide) k257 rfl rfl rfl (Nat.lt_of_lt_of_eq (by decide) len_M.symm) s_M_trace dX7_begins_10 (fun M_1 H locs eM_1 hP hS => ?_)
  have hF := hF M_1 eM_1
  exact retV S hr hlocks hP hS hF dX7_begins_13
def wX7_tell (a1 : Int32) (Q : Int32 → Mm → Prop) (M : Mm) : Prop := (wX7_isComer a1 (fun r_1 M_1 => ((r_1 = 0 → (Q (-1 : Int32) M_1)) ∧ (¬ r_1 = 0 → (vp_in a1 40 ∧ (vp_in a1 40 ∧ (((ga M_1 50 a1.toNatClampNeg) = 1 → (wX7_begins (2 : Int32) (fun M_6 => (wX7_begins (1 : Int32) (fun M_7 => (vp_in a1 40 ∧ (Q ((ga M_1 49 a1.toNatClampNeg) + ((10 : Int32) * (ga M_7 51 a1.toNatClampNeg))) M_7))) M_6)) M_1)) ∧ (¬ (ga M_1 50 a1.toNatClampNeg) = 1 → (((ga M_1 50 a1.toNatClampNeg) = 2 → (wX7_begins (3 : Int32) (fun M_10 => (wX7_begins (2 : Int32) (fun M_11 => (wX7_begins (1 : Int32) (fun M_12 => (wX7_begins (1 : Int32) (fun M_13 => (vp_in a1 40 ∧ (Q (((2 : Int32) * (ga M_1 49 a1.toNatClampNeg)) + ((10 : Int32) * (ga M_13 51 a1.toNatClampNeg))) M_13))) M_12)) M_11)) M_10)) M_1)) ∧ (¬ (ga M_1 50 a1.toNatClampNeg) = 2 → (wX7_begins (1 : Int32) (fun M_15 => (Q (ga M_1 49 a1.toNatClampNeg) M_15)) M_1)))))))))) M)
set_option maxHeartbeats 4000000 in
set_option maxRecDepth 100000 in
theorem ctX7_tell (l : Launch) (D : va_G) (cI cJ : ClassId) (ad : Nat → Nat) (had : inj54 ad) (a1 : Int32) (Q : Int32 → Mm → Prop) (M : Mm) (hF : wX7_tell a1 Q M) : Met l yX7_tell wsX7_tell ({ frames := 1, cells := 0, slots := 0, locals := 21 } : Room) (PcW D cI cJ ad M [.ref (ad 32), .int a1]) (QiW D cI cJ ad Q) 0 0 (Fr ad) := by
  refine entW (y := yX7_tell) (ret := some .int) (maxL := 3) (plainFor_of_name (by decide)) rfl (Nat.le_of_ble_eq_true rfl) ?_
  intro p e s m args below meth c ls S hK hr hlocks hP hS hl
  have hx := S.1
  have hb := S.2.1
  have hown := S.2.2.2.1
  have hts := S.2.2.2.2
  have i7 : ∀ w ∈ wsX70, w ∈ wsX7_tell := by decide +kernel
  have k59 := hts (.fieldLink RX7 59 "RopeLineModel" "comerSort" "[I") (by decide +kernel)
  have k62 := hts (.fieldLink RX7 62 "RopeLineModel" "comerKind" "[I") (by decide +kernel)
  have k65 := hts (.fieldLink RX7 65 "RopeLineModel" "waited" "[I") (by decide +kernel)
  have hl : lv_has ls 3 [(0, .ref (ad 32)), (1, .int a1)] := hl
  unfold wX7_tell at hF
  refine lv_aload_n hx hb dX7_tell_0 rfl (lv_at hl 0 rfl) ?_
  refine lv_iload_n hx hb dX7_tell_1 rfl (lv_at hl 1 rfl) ?_
  refine goZ (rV (rest := []) S hK hP (ctX7_isComer l D cI cJ ad had a1 _ _ hF) (cwV 1 hts gX7_tell_X7_isComer rfl rfl rfl hdV_X7_isComer ⟨Nat.le_of_ble_eq_true rfl, Nat.le_of_ble_eq_true rfl⟩) e_M rfl rfl hl.1 rfl (Nat.le_of_ble_eq_true rfl) dX7_tell_2 ⟨Nat.zero_le _, Nat.zero_le _⟩) hS (fun _ h => h) (fun r_1 M_1 H locs hP hS hz_r_1 hF => ?_)
  refine lv_if_ne (tgt := 10) hx hb dX7_tell_5 (by decide) (fun c_2 => ?_) (fun c_2 => ?_)
  · have hF := hF.2 c_2
    refine lv_aload_n hx hb dX7_tell_10 rfl (lv_at hl 0 rfl) ?_
    refine gF S hK hP i7 e_M rfl 35 (by decide) k59 f_M_comerSort dX7_tell_11 ?_
    refine lv_iload_n hx hb dX7_tell_14 rfl (lv_at hl 1 rfl) ?_
    obtain ⟨hb_3, hF⟩ := hF
    refine ldA S hK hP (k := 49) rfl hb_3 dX7_tell_15 ?_
    refine lv_istore_n (lv' := [(2, .int (ga M_1 49 a1.toNatClampNeg)), (0, .ref (ad 32)), (1, .int a1)]) hx hb dX7_tell_16 rfl hl (by decide) rfl (fun ls hl => ?_)
    refine lv_aload_n hx hb dX7_tell_17 rfl (lv_at hl 1 rfl) ?_
    refine gF S hK hP i7 e_M rfl 36 (by decide) k62 f_M_comerKind dX7_tell_18 ?_
    refine lv_iload_n hx hb dX7_tell_21 rfl (lv_at hl 2 rfl) ?_
    obtain ⟨hb_4, hF⟩ := hF
    refine ldA S hK hP (k := 50) rfl hb_4 dX7_tell_22 ?_
    by_cases c_5 : (ga M_1 50 a1.toNatClampNeg) = 1
    · have hF := hF.1 c_5
      refine lv_lookup (off := 25) (tgt := 48) hx hb dX7_tell_23 (by decide) (by rw [c_5]; rfl) (by decide) ?_
      refine lv_aload_n hx hb dX7_tell_48 rfl (lv_at hl 1 rfl) ?_
      refine lv_iconst (v := 2) hx hb dX7_tell_49 (by decide) ?_
      refine goV (rV (rest := []) S hK hP (ctX7_begins l D cI cJ ad had (2 : Int32) _ _ hF) (cwV 1 hts gX7_tell_X7_begins rfl rfl rfl hdV_X7_begins ⟨Nat.le_of_ble_eq_true rfl, Nat.le_of_ble_eq_true rfl⟩) e_M rfl rfl hl.1 rfl (Nat.le_of_ble_eq_true rfl) dX7_tell_50 ⟨Nat.zero_le _, Nat.zero_le _⟩) hS (fun _ h => h) (fun M_6 H locs hP hS hF => ?_)
      refine lv_aload_n hx hb dX7_tell_53 rfl (lv_at hl 1 rfl) ?_
      refine lv_iconst (v := 1) hx hb dX7_tell_54 (by decide) ?_
      refine goV (rV (rest := []) S hK hP (ctX7_begins l D cI cJ ad had (1 : Int32) _ _ hF) (cwV 1 hts gX7_tell_X7_begins rfl rfl rfl hdV_X7_begins ⟨Nat.le_of_ble_eq_true rfl, Nat.le_of_ble_eq_true rfl⟩) e_M rfl rfl hl.1 rfl (Nat.le_of_ble_eq_true rfl) dX7_tell_55 ⟨Nat.zero_le _, Nat.zero_le _⟩) hS (fun _ h => h) (fun M_7 H locs hP hS hF => ?_)
      refine lv_iload_n hx hb dX7_tell_58 rfl (lv_at hl 0 rfl) ?_
      refine lv_bipush (v := 10) hx hb dX7_tell_59 (by decide) ?_
      refine lv_aload_n hx hb dX7_tell_61 rfl (lv_at hl 1 rfl) ?_
      refine gF S hK hP i7 e_M rfl 37 (by decide) k65 f_M_waited dX7_tell_62 ?_
      refine lv_iload_n hx hb dX7_tell_65 rfl (lv_at hl 2 rfl) ?_
      obtain ⟨hb_8, hF⟩ := hF
      refine ldA S hK hP (k := 51) rfl hb_8 dX7_tell_66 ?_
      refine lv_imul hx hb dX7_tell_67 ?_
      refine lv_iadd hx hb dX7_tell_68 ?_
      exact retI S hr hlocks hP hS hF dX7_tell_69
    · have hF := hF.2 c_5
      by_cases c_9 : (ga M_1 50 a1.toNatClampNeg) = 2
      · have hF := hF.1 c_9
        refine lv_lookup (off := 47) (tgt := 70) hx hb dX7_tell_23 (by decide) (by rw [c_9]; rfl) (by decide) ?_
        refine lv_aload_n hx hb dX7_tell_70 rfl (lv_at hl 1 rfl) ?_
        refine lv_iconst (v := 3) hx hb dX7_tell_71 (by decide) ?_
        refine goV (rV (rest := []) S hK hP (ctX7_begins l D cI cJ ad had (3 : Int32) _ _ hF) (cwV 1 hts gX7_tell_X7_begins rfl rfl rfl hdV_X7_begins ⟨Nat.le_of_ble_eq_true rfl, Nat.le_of_ble_eq_true rfl⟩) e_M rfl rfl hl.1 rfl (Nat.le_of_ble_eq_true rfl) dX7_tell_72 ⟨Nat.zero_le _, Nat.zero_le _⟩) hS (fun _ h => h) (fun M_10 H locs hP hS hF => ?_)
        refine lv_aload_n hx hb dX7_tell_75 rfl (lv_at hl 1 rfl) ?_
        refine lv_iconst (v := 2) hx hb dX7_tell_76 (by decide) ?_
        refine goV (rV (rest := []) S hK hP (ctX7_begins l D cI cJ ad had (2 : Int32) _ _ hF) (cwV 1 hts gX7_tell_X7_begins rfl rfl rfl hdV_X7_begins ⟨Nat.le_of_ble_eq_true rfl, Nat.le_of_ble_eq_true rfl⟩) e_M rfl rfl hl.1 rfl (Nat.le_of_ble_eq_true rfl) dX7_tell_77 ⟨Nat.zero_le _, Nat.zero_le _⟩) hS (fun _ h => h) (fun M_11 H locs hP hS hF => ?_)
        refine lv_aload_n hx hb dX7_tell_80 rfl (lv_at hl 1 rfl) ?_
        refine lv_iconst (v := 1) hx hb dX7_tell_81 (by decide) ?_
        refine goV (rV (rest := []) S hK hP (ctX7_begins l D cI cJ ad had (1 : Int32) _ _ hF) (cwV 1 hts gX7_tell_X7_begins rfl rfl rfl hdV_X7_begins ⟨Nat.le_of_ble_eq_true rfl, Nat.le_of_ble_eq_true rfl⟩) e_M rfl rfl hl.1 rfl (Nat.le_of_ble_eq_true rfl) dX7_tell_82 ⟨Nat.zero_le _, Nat.zero_le _⟩) hS (fun _ h => h) (fun M_12 H locs hP hS hF => ?_)
        refine lv_aload_n hx hb dX7_tell_85 rfl (lv_at hl 1 rfl) ?_
        refine lv_iconst (v := 1) hx hb dX7_tell_86 (by decide) ?_
        refine goV (rV (rest := []) S hK hP (ctX7_begins l D cI cJ ad had (1 : Int32) _ _ hF) (cwV 1 hts gX7_tell_X7_begins rfl rfl rfl hdV_X7_begins ⟨Nat.le_of_ble_eq_true rfl, Nat.le_of_ble_eq_true rfl⟩) e_M rfl rfl hl.1 rfl (Nat.le_of_ble_eq_true rfl) dX7_tell_87 ⟨Nat.zero_le _, Nat.zero_le _⟩) hS (fun _ h => h) (fun M_13 H locs hP hS hF => ?_)
        refine lv_iconst (v := 2) hx hb dX7_tell_90 (by decide) ?_
        refine lv_iload_n hx hb dX7_tell_91 rfl (lv_at hl 0 rfl) ?_
        refine lv_imul hx hb dX7_tell_92 ?_
        refine lv_bipush (v := 10) hx hb dX7_tell_93 (by decide) ?_
        refine lv_aload_n hx hb dX7_tell_95 rfl (lv_at hl 1 rfl) ?_
        refine gF S hK hP i7 e_M rfl 37 (by decide) k65 f_M_waited dX7_tell_96 ?_
        refine lv_iload_n hx hb dX7_tell_99 rfl (lv_at hl 2 rfl) ?_
        obtain ⟨hb_14, hF⟩ := hF
        refine ldA S hK hP (k := 51) rfl hb_14 dX7_tell_100 ?_
        refine lv_imul hx hb dX7_tell_101 ?_
        refine lv_iadd hx hb dX7_tell_102 ?_
        exact retI S hr hlocks hP hS hF dX7_tell_103
      · have hF := hF.2 c_9
        refine lv_lookup (off := 81) (tgt := 104) hx hb dX7_tell_23 (by decide) ((lv_osw c_5 (k := 1) (by decide)).trans ((lv_osw c_9 (k := 2) (by decide)).trans (rfl))) (by decide) ?_
        refine lv_aload_n hx hb dX7_tell_104 rfl (lv_at hl 1 rfl) ?_
        refine lv_iconst (v := 1) hx hb dX7_tell_105 (by decide) ?_
        refine goV (rV (rest := []) S hK hP (ctX7_begins l D cI cJ ad had (1 : Int32) _ _ hF) (cwV 1 hts gX7_tell_X7_begins rfl rfl rfl hdV_X7_begins ⟨Nat.le_of_ble_eq_true rfl, Nat.le_of_ble_eq_true rfl⟩) e_M rfl rfl hl.1 rfl (Nat.le_of_ble_eq_true rfl) dX7_tell_106 ⟨Nat.zero_le _, Nat.zero_le _⟩) hS (fun _ h => h) (fun M_15 H locs hP hS hF => ?_)
        refine lv_iload_n hx hb dX7_tell_109 rfl (lv_at hl 0 rfl) ?_
        exact retI S hr hlocks hP hS hF dX7_tell_110
  · have hF := hF.1 c_2
    refine lv_iconst (v := -1) hx hb dX7_tell_8 (by decide) ?_
    exact retI S hr hlocks hP hS hF dX7_tell_9
def wX7_call (a1 : Int32) (Q : Int32 → Mm → Prop) (M : Mm) : Prop := (wX7_isComer a1 (fun r_1 M_1 => ((r_1 = 0 → (Q (-1 : Int32) M_1)) ∧ (¬ r_1 = 0 → (vp_in a1 40 ∧ (((ga M_1 50 a1.toNatClampNeg) = (2 : Int32) → (wX7_begins (5 : Int32) (fun M_8 => (vp_in a1 40 ∧ (((ga M_8 50 a1.toNatClampNeg) = (2 : Int32) → (Q (90 : Int32) M_8)) ∧ (¬ (ga M_8 50 a1.toNatClampNeg) = (2 : Int32) → (Q a1 M_8))))) M_1)) ∧ (¬ (ga M_1 50 a1.toNatClampNeg) = (2 : Int32) → (wX7_begins (4 : Int32) (fun M_5 => (vp_in a1 40 ∧ (((ga M_5 50 a1.toNatClampNeg) = (2 : Int32) → (Q (90 : Int32) M_5)) ∧ (¬ (ga M_5 50 a1.toNatClampNeg) = (2 : Int32) → (Q a1 M_5))))) M_1))))))) M)
set_option maxHeartbeats 4000000 in
set_option maxRecDepth 100000 in
theorem ctX7_call (l : Launch) (D : va_G) (cI cJ : ClassId) (ad : Nat → Nat) (had : inj54 ad) (a1 : Int32) (Q : Int32 → Mm → Prop) (M : Mm) (hF : wX7_call a1 Q M) : Met l yX7_call wsX7_call ({ frames := 1, cells := 0, slots := 0, locals := 21 } : Room) (PcW D cI cJ ad M [.ref (ad 32), .int a1]) (QiW D cI cJ ad Q) 0 0 (Fr ad) := by
  refine entW (y := yX7_call) (ret := some .int) (maxL := 2) (plainFor_of_name (by decide)) rfl (Nat.le_of_ble_eq_true rfl) ?_
  intro p e s m args below meth c ls S hK hr hlocks hP hS hl
  have hx := S.1
  have hb := S.2.1
  have hown := S.2.2.2.1
  have hts := S.2.2.2.2
  have i7 : ∀ w ∈ wsX70, w ∈ wsX7_call := by decide +kernel
  have k62 := hts (.fieldLink RX7 62 "RopeLineModel" "comerKind" "[I") (by decide +kernel)
  have hl : lv_has ls 2 [(0, .ref (ad 32)), (1, .int a1)] := hl
  unfold wX7_call at hF
  refine lv_aload_n hx hb dX7_call_0 rfl (lv_at hl 0 rfl) ?_
  refine lv_iload_n hx hb dX7_call_1 rfl (lv_at hl 1 rfl) ?_
  refine goZ (rV (rest := []) S hK hP (ctX7_isComer l D cI cJ ad had a1 _ _ hF) (cwV 1 hts gX7_call_X7_isComer rfl rfl rfl hdV_X7_isComer ⟨Nat.le_of_ble_eq_true rfl, Nat.le_of_ble_eq_true rfl⟩) e_M rfl rfl hl.1 rfl (Nat.le_of_ble_eq_true rfl) dX7_call_2 ⟨Nat.zero_le _, Nat.zero_le _⟩) hS (fun _ h => h) (fun r_1 M_1 H locs hP hS hz_r_1 hF => ?_)
  refine lv_if_ne (tgt := 10) hx hb dX7_call_5 (by decide) (fun c_2 => ?_) (fun c_2 => ?_)
  · have hF := hF.2 c_2
    refine lv_aload_n hx hb dX7_call_10 rfl (lv_at hl 0 rfl) ?_
    refine lv_aload_n hx hb dX7_call_11 rfl (lv_at hl 0 rfl) ?_
    refine gF S hK hP i7 e_M rfl 36 (by decide) k62 f_M_comerKind dX7_call_12 ?_
    refine lv_iload_n hx hb dX7_call_15 rfl (lv_at hl 1 rfl) ?_
    obtain ⟨hb_3, hF⟩ := hF
    refine ldA S hK hP (k := 50) rfl hb_3 dX7_call_16 ?_
    refine lv_iconst (v := 2) hx hb dX7_call_17 (by decide) ?_
    refine lv_icmp_ne (tgt := 25) hx hb dX7_call_18 (by decide) (fun c_4 => ?_) (fun c_4 => ?_)
    · have hF := hF.2 c_4
      refine lv_iconst (v := 4) hx hb dX7_call_25 (by decide) ?_
      refine goV (rV (rest := []) S hK hP (ctX7_begins l D cI cJ ad had (4 : Int32) _ _ hF) (cwV 1 hts gX7_call_X7_begins rfl rfl rfl hdV_X7_begins ⟨Nat.le_of_ble_eq_true rfl, Nat.le_of_ble_eq_true rfl⟩) e_M rfl rfl hl.1 rfl (Nat.le_of_ble_eq_true rfl) dX7_call_26 ⟨Nat.zero_le _, Nat.zero_le _⟩) hS (fun _ h => h) (fun M_5 H locs hP hS hF => ?_)
      refine lv_aload_n hx hb dX7_call_29 rfl (lv_at hl 0 rfl) ?_
      refine gF S hK hP i7 e_M rfl 36 (by decide) k62 f_M_comerKind dX7_call_30 ?_
      refine lv_iload_n hx hb dX7_call_33 rfl (lv_at hl 1 rfl) ?_
      obtain ⟨hb_6, hF⟩ := hF
      refine ldA S hK hP (k := 50) rfl hb_6 dX7_call_34 ?_
      refine lv_iconst (v := 2) hx hb dX7_call_35 (by decide) ?_
      refine lv_icmp_ne (tgt := 44) hx hb dX7_call_36 (by decide) (fun c_7 => ?_) (fun c_7 => ?_)
      · have hF := hF.2 c_7
        refine lv_iload_n hx hb dX7_call_44 rfl (lv_at hl 1 rfl) ?_
        exact retI S hr hlocks hP hS hF dX7_call_45
      · have hF := hF.1 c_7
        refine lv_bipush (v := 90) hx hb dX7_call_39 (by decide) ?_
        refine lv_goto (tgt := 45) hx hb dX7_call_41 (by decide) ?_
        exact retI S hr hlocks hP hS hF dX7_call_45
    · have hF := hF.1 c_4
      refine lv_iconst (v := 5) hx hb dX7_call_21 (by decide) ?_
      refine lv_goto (tgt := 26) hx hb dX7_call_22 (by decide) ?_
      refine goV (rV (rest := []) S hK hP (ctX7_begins l D cI cJ ad had (5 : Int32) _ _ hF) (cwV 1 hts gX7_call_X7_begins rfl rfl rfl hdV_X7_begins ⟨Nat.le_of_ble_eq_true rfl, Nat.le_of_ble_eq_true rfl⟩) e_M rfl rfl hl.1 rfl (Nat.le_of_ble_eq_true rfl) dX7_call_26 ⟨Nat.zero_le _, Nat.zero_le _⟩) hS (fun _ h => h) (fun M_8 H locs hP hS hF => ?_)
      refine lv_aload_n hx hb dX7_call_29 rfl (lv_at hl 0 rfl) ?_
      refine gF S hK hP i7 e_M rfl 36 (by decide) k62 f_M_comerKind dX7_call_30 ?_
      refine lv_iload_n hx hb dX7_call_33 rfl (lv_at hl 1 rfl) ?_
      obtain ⟨hb_9, hF⟩ := hF
      refine ldA S hK hP (k := 50) rfl hb_9 dX7_call_34 ?_
      refine lv_iconst (v := 2) hx hb dX7_call_35 (by decide) ?_
      refine lv_icmp_ne (tgt := 44) hx hb dX7_call_36 (by decide) (fun c_10 => ?_) (fun c_10 => ?_)
      · have hF := hF.2 c_10
        refine lv_iload_n hx hb dX7_call_44 rfl (lv_at hl 1 rfl) ?_
        exact retI S hr hlocks hP hS hF dX7_call_45
      · have hF := hF.1 c_10
        refine lv_bipush (v := 90) hx hb dX7_call_39 (by decide) ?_
        refine lv_goto (tgt := 45) hx hb dX7_call_41 (by decide) ?_
        exact retI S hr hlocks hP hS hF dX7_call_45
  · have hF := hF.1 c_2
    refine lv_iconst (v := -1) hx hb dX7_call_8 (by decide) ?_
    exact retI S hr hlocks hP hS hF dX7_call_9
def wX7_as (a1 : Int32) (a2 : Int32) (Q : Int32 → Mm → Prop) (M : Mm) : Prop := (∀ M_1 : Mm, M_1 = (si M 26 (0 : Int32)) → (wX7_isComer a1 (fun r_2 M_2 => ((r_2 = 0 → (Q (-1 : Int32) M_2)) ∧ (¬ r_2 = 0 → (wX7_within a2 (0 : Int32) (2 : Int32) (fun r_4 M_4 => ((r_4 = 0 → (Q (-2 : Int32) M_4)) ∧ (¬ r_4 = 0 → (vp_in a1 40 ∧ (((ga M_4 50 a1.toNatClampNeg) < a2 → (wX7_fails (2 : Int32) (fun r_8 M_8 => (Q r_8 M_8)) M_4)) ∧ (¬ (ga M_4 50 a1.toNatClampNeg) < a2 → (Q (1 : Int32) M_4))))))) M_2)))) M_1))
set_option maxHeartbeats 4000000 in
set_option maxRecDepth 100000 in
theorem ctX7_as (l : Launch) (D : va_G) (cI cJ : ClassId) (ad : Nat → Nat) (had : inj54 ad) (a1 : Int32) (a2 : Int32) (Q : Int32 → Mm → Prop) (M : Mm) (hF : wX7_as a1 a2 Q M) : Met l yX7_as wsX7_as ({ frames := 1, cells := 0, slots := 0, locals := 22 } : Room) (PcW D cI cJ ad M [.ref (ad 32), .int a1, .int a2]) (QiW D cI cJ ad Q) 0 0 (Fr ad) := by
  refine entW (y := yX7_as) (ret := some .int) (maxL := 3) (plainFor_of_name (by decide)) rfl (Nat.le_of_ble_eq_true rfl) ?_
  intro p e s m args below meth c ls S hK hr hlocks hP hS hl
  have hx := S.1
  have hb := S.2.1
  have hown := S.2.2.2.1
  have hts := S.2.2.2.2
  have i7 : ∀ w ∈ wsX70, w ∈ wsX7_as := by decide +kernel
  have k74 := hts (.fieldLink RX7 74 "RopeLineModel" "fault" "I") (by decide +kernel)
  have k62 := hts (.fieldLink RX7 62 "RopeLineModel" "comerKind" "[I") (by decide +kernel)
  have hl : lv_has ls 3 [(0, .ref (ad 32)), (1, .int a1), (2, .int a2)] := hl
  unfold wX7_as at hF
  refine lv_aload_n hx hb dX7_as_0 rfl (lv_at hl 0 rfl) ?_
  refine lv_iconst (v := 0) hx hb dX7_as_1 (by decide) ?_
  refine pF S hK had hP hS i7 tyX7_ok nmX7 e_M rfl 0 (by decide) k74 rfl rfl rfl (Nat.lt_of_lt_of_eq (by decide) len_M.symm) s_M_fault dX7_as_2 (fun M_1 H locs eM_1 hP hS => ?_)
  have hF := hF M_1 eM_1
  refine lv_aload_n hx hb dX7_as_5 rfl (lv_at hl 0 rfl) ?_
  refine lv_iload_n hx hb dX7_as_6 rfl (lv_at hl 1 rfl) ?_
  refine goZ (rV (rest := []) S hK hP (ctX7_isComer l D cI cJ ad had a1 _ _ hF) (cwV 1 hts gX7_as_X7_isComer rfl rfl rfl hdV_X7_isComer ⟨Nat.le_of_ble_eq_true rfl, Nat.le_of_ble_eq_true rfl⟩) e_M rfl rfl hl.1 rfl (Nat.le_of_ble_eq_true rfl) dX7_as_7 ⟨Nat.zero_le _, Nat.zero_le _⟩) hS (fun _ h => h) (fun r_2 M_2 H locs hP hS hz_r_2 hF => ?_)
  refine lv_if_ne (tgt := 15) hx hb dX7_as_10 (by decide) (fun c_3 => ?_) (fun c_3 => ?_)
  · have hF := hF.2 c_3
    refine lv_iload_n hx hb dX7_as_15 rfl (lv_at hl 2 rfl) ?_
    refine lv_iconst (v := 0) hx hb dX7_as_16 (by decide) ?_
    refine lv_iconst (v := 2) hx hb dX7_as_17 (by decide) ?_
    refine goZ (rS (rest := []) S hK hP (ctX7_within l D cI cJ ad had a2 (0 : Int32) (2 : Int32) _ _ hF) (va_cwS 3 hts gX7_as_X7_within rfl rfl rfl hdS_X7_within ⟨Nat.le_of_ble_eq_true rfl, Nat.le_of_ble_eq_true rfl⟩) rfl hl.1 rfl (Nat.le_of_ble_eq_true rfl) dX7_as_18 ⟨Nat.zero_le _, Nat.zero_le _⟩) hS (fun _ h => h) (fun r_4 M_4 H locs hP hS hz_r_4 hF => ?_)
    refine lv_if_ne (tgt := 27) hx hb dX7_as_21 (by decide) (fun c_5 => ?_) (fun c_5 => ?_)
    · have hF := hF.2 c_5
      refine lv_aload_n hx hb dX7_as_27 rfl (lv_at hl 0 rfl) ?_
      refine gF S hK hP i7 e_M rfl 36 (by decide) k62 f_M_comerKind dX7_as_28 ?_
      refine lv_iload_n hx hb dX7_as_31 rfl (lv_at hl 1 rfl) ?_
      obtain ⟨hb_6, hF⟩ := hF
      refine ldA S hK hP (k := 50) rfl hb_6 dX7_as_32 ?_
      refine lv_iload_n hx hb dX7_as_33 rfl (lv_at hl 2 rfl) ?_
      refine lv_icmp_lt (tgt := 41) hx hb dX7_as_34 (by decide) (fun c_7 => ?_) (fun c_7 => ?_)
      · have hF := hF.1 c_7
        refine lv_aload_n hx hb dX7_as_41 rfl (lv_at hl 0 rfl) ?_
        refine lv_iconst (v := 2) hx hb dX7_as_42 (by decide) ?_
        refine goI (rV (rest := []) S hK hP (ctX7_fails l D cI cJ ad had (2 : Int32) _ _ hF) (cwV 1 hts gX7_as_X7_fails rfl rfl rfl hdV_X7_fails ⟨Nat.le_of_ble_eq_true rfl, Nat.le_of_ble_eq_true rfl⟩) e_M rfl rfl hl.1 rfl (Nat.le_of_ble_eq_true rfl) dX7_as_43 ⟨Nat.zero_le _, Nat.zero_le _⟩) hS (fun _ h => h) (fun r_8 M_8 H locs hP hS hF => ?_)
        exact retI S hr hlocks hP hS hF dX7_as_46
      · have hF := hF.2 c_7
        refine lv_iconst (v := 1) hx hb dX7_as_37 (by decide) ?_
        refine lv_goto (tgt := 46) hx hb dX7_as_38 (by decide) ?_
        exact retI S hr hlocks hP hS hF dX7_as_46
    · have hF := hF.1 c_5
      refine lv_bipush (v := -2) hx hb dX7_as_24 (by decide) ?_
      exact retI S hr hlocks hP hS hF dX7_as_26
  · have hF := hF.1 c_3
    refine lv_iconst (v := -1) hx hb dX7_as_13 (by decide) ?_
    exact retI S hr hlocks hP hS hF dX7_as_14
def wX7_trace (Q : Int32 → Mm → Prop) (M : Mm) : Prop := (Q (gi M 27) M)
set_option maxHeartbeats 4000000 in
set_option maxRecDepth 100000 in
theorem ctX7_trace (l : Launch) (D : va_G) (cI cJ : ClassId) (ad : Nat → Nat) (had : inj54 ad)  (Q : Int32 → Mm → Prop) (M : Mm) (hF : wX7_trace Q M) : Met l yX7_trace wsX7_trace ({ frames := 0, cells := 0, slots := 0, locals := 0 } : Room) (PcW D cI cJ ad M [.ref (ad 32)]) (QiW D cI cJ ad Q) 0 0 (Fr ad) := by
  refine entW (y := yX7_trace) (ret := some .int) (maxL := 1) (plainFor_of_name (by decide)) rfl (Nat.le_of_ble_eq_true rfl) ?_
  intro p e s m args below meth c ls S hK hr hlocks hP hS hl
  have hx := S.1
  have hb := S.2.1
  have hown := S.2.2.2.1
  have hts := S.2.2.2.2
  have i7 : ∀ w ∈ wsX70, w ∈ wsX7_trace := by decide +kernel
  have k257 := hts (.fieldLink RX7 257 "RopeLineModel" "trace" "I") (by decide +kernel)
  have hl : lv_has ls 1 [(0, .ref (ad 32))] := hl
  unfold wX7_trace at hF
  refine lv_aload_n hx hb dX7_trace_0 rfl (lv_at hl 0 rfl) ?_
  refine gF S hK hP i7 e_M rfl 1 (by decide) k257 f_M_trace dX7_trace_1 ?_
  exact retI S hr hlocks hP hS hF dX7_trace_4
def wX7_fault (Q : Int32 → Mm → Prop) (M : Mm) : Prop := (Q (gi M 26) M)
set_option maxHeartbeats 4000000 in
set_option maxRecDepth 100000 in
theorem ctX7_fault (l : Launch) (D : va_G) (cI cJ : ClassId) (ad : Nat → Nat) (had : inj54 ad)  (Q : Int32 → Mm → Prop) (M : Mm) (hF : wX7_fault Q M) : Met l yX7_fault wsX7_fault ({ frames := 0, cells := 0, slots := 0, locals := 0 } : Room) (PcW D cI cJ ad M [.ref (ad 32)]) (QiW D cI cJ ad Q) 0 0 (Fr ad) := by
  refine entW (y := yX7_fault) (ret := some .int) (maxL := 1) (plainFor_of_name (by decide)) rfl (Nat.le_of_ble_eq_true rfl) ?_
  intro p e s m args below meth c ls S hK hr hlocks hP hS hl
  have hx := S.1
  have hb := S.2.1
  have hown := S.2.2.2.1
  have hts := S.2.2.2.2
  have i7 : ∀ w ∈ wsX70, w ∈ wsX7_fault := by decide +kernel
  have k74 := hts (.fieldLink RX7 74 "RopeLineModel" "fault" "I") (by decide +kernel)
  have hl : lv_has ls 1 [(0, .ref (ad 32))] := hl
  unfold wX7_fault at hF
  refine lv_aload_n hx hb dX7_fault_0 rfl (lv_at hl 0 rfl) ?_
  refine gF S hK hP i7 e_M rfl 0 (by decide) k74 f_M_fault dX7_fault_1 ?_
  exact retI S hr hlocks hP hS hF dX7_fault_4
def bX7_many_4 (a1 : Int32) (Q : Int32 → Mm → Prop) (J_4 : Int32 → Int32 → Mm → Prop) (x2_4 : Int32) (x3_4 : Int32) (m4 : Mm) : Prop := (((gi m4 40) ≤ x3_4 → ((a1 = 0 → (Q (gi m4 31) m4)) ∧ (¬ a1 = 0 → ((a1 = 1 → (Q (gi m4 40) m4)) ∧ (¬ a1 = 1 → ((a1 = 2 → (wX7_standing (fun r_5 M_5 => (Q r_5 M_5)) m4)) ∧ (¬ a1 = 2 → ((a1 = 3 → (Q x2_4 m4)) ∧ (¬ a1 = 3 → ((a1 = 4 → (Q (gi m4 41) m4)) ∧ (¬ a1 = 4 → (Q (-2 : Int32) m4)))))))))))) ∧ (¬ (gi m4 40) ≤ x3_4 → (vp_in x3_4 40 ∧ (((ga m4 50 x3_4.toNatClampNeg) = (2 : Int32) → (J_4 (x2_4 + (1 : Int32)) (x3_4 + 1) m4)) ∧ (¬ (ga m4 50 x3_4.toNatClampNeg) = (2 : Int32) → (J_4 (x2_4 + (0 : Int32)) (x3_4 + 1) m4))))))
def lX7_many_4 (a1 : Int32) (Q : Int32 → Mm → Prop) (x2_4 : Int32) (x3_4 : Int32) (m4 : Mm) : Prop := ∀ I : Int32 → Int32 → Mm → Prop, (∀ J : Int32 → Int32 → Mm → Prop, (∀ (x2_4 : Int32) (x3_4 : Int32) (m : Mm), J x2_4 x3_4 m → I x2_4 x3_4 m) → ∀ (x2_4 : Int32) (x3_4 : Int32) (m : Mm), bX7_many_4 a1 Q J x2_4 x3_4 m → I x2_4 x3_4 m) → I x2_4 x3_4 m4
theorem lX7_many_4_mk (a1 : Int32) (Q : Int32 → Mm → Prop) (x2_4 : Int32) (x3_4 : Int32) (m4 : Mm) (h : bX7_many_4 a1 Q (lX7_many_4 a1 Q) x2_4 x3_4 m4) : lX7_many_4 a1 Q x2_4 x3_4 m4 := fun I hI => hI (lX7_many_4 a1 Q) (fun _ _ _ q => q I hI) _ _ _ h
def wX7_many (a1 : Int32) (Q : Int32 → Mm → Prop) (M : Mm) : Prop := (lX7_many_4 a1 Q (0 : Int32) (0 : Int32) M)
set_option maxHeartbeats 4000000 in
set_option maxRecDepth 100000 in
theorem ctX7_many (l : Launch) (D : va_G) (cI cJ : ClassId) (ad : Nat → Nat) (had : inj54 ad) (a1 : Int32) (Q : Int32 → Mm → Prop) (M : Mm) (hF : wX7_many a1 Q M) : Met l yX7_many wsX7_many ({ frames := 1, cells := 0, slots := 0, locals := 22 } : Room) (PcW D cI cJ ad M [.ref (ad 32), .int a1]) (QiW D cI cJ ad Q) 0 0 (Fr ad) := by
  refine entW (y := yX7_many) (ret := some .int) (maxL := 4) (plainFor_of_name (by decide)) rfl (Nat.le_of_ble_eq_true rfl) ?_
  intro p e s m args below meth c ls S hK hr hlocks hP hS hl
  have hx := S.1
  have hb := S.2.1
  have hown := S.2.2.2.1
  have hts := S.2.2.2.2
  have i7 : ∀ w ∈ wsX70, w ∈ wsX7_many := by decide +kernel
  have k164 := hts (.fieldLink RX7 164 "RopeLineModel" "comers" "I") (by decide +kernel)
  have k152 := hts (.fieldLink RX7 152 "RopeLineModel" "sorts" "I") (by decide +kernel)
  have k167 := hts (.fieldLink RX7 167 "RopeLineModel" "minutes" "I") (by decide +kernel)
  have k62 := hts (.fieldLink RX7 62 "RopeLineModel" "comerKind" "[I") (by decide +kernel)
  have hl : lv_has ls 4 [(0, .ref (ad 32)), (1, .int a1)] := hl
  unfold wX7_many at hF
  refine lv_iconst (v := 0) hx hb dX7_many_0 (by decide) ?_
  refine lv_istore_n (lv' := [(2, .int (0 : Int32)), (0, .ref (ad 32)), (1, .int a1)]) hx hb dX7_many_1 rfl hl (by decide) rfl (fun ls hl => ?_)
  refine lv_iconst (v := 0) hx hb dX7_many_2 (by decide) ?_
  refine lv_istore_n (lv' := [(3, .int (0 : Int32)), (2, .int (0 : Int32)), (0, .ref (ad 32)), (1, .int a1)]) hx hb dX7_many_3 rfl hl (by decide) rfl (fun ls hl => ?_)
  have key_4 : ∀ (x2_4 : Int32) (x3_4 : Int32) (m4 : Mm), (lX7_many_4 a1 Q x2_4 x3_4 m4) → Wc p l e ({ frames := 1, cells := 0, slots := 0, locals := 22 } : Room) s m args below meth c D cI cJ ad (MQ below (QiW D cI cJ ad Q) args s 0 0 (Fr ad)) 4 4 [(0, .ref (ad 32)), (1, .int a1), (2, .int x2_4), (3, .int x3_4)] m4 := by
    intro x2_4 x3_4 m4 hL
    refine hL (fun x2_4 x3_4 m4 => Wc p l e ({ frames := 1, cells := 0, slots := 0, locals := 22 } : Room) s m args below meth c D cI cJ ad (MQ below (QiW D cI cJ ad Q) args s 0 0 (Fr ad)) 4 4 [(0, .ref (ad 32)), (1, .int a1), (2, .int x2_4), (3, .int x3_4)] m4) ?_
    intro J_4 hJ_4 x2_4 x3_4 m4 hF H locs ls hP hS hl
    unfold bX7_many_4 at hF
    refine lv_iload_n hx hb dX7_many_4 rfl (lv_at hl 3 rfl) ?_
    refine lv_aload_n hx hb dX7_many_5 rfl (lv_at hl 0 rfl) ?_
    refine gF S hK hP i7 e_M rfl 32 (by decide) k164 f_M_comers dX7_many_6 ?_
    refine lv_icmp_ge (tgt := 36) hx hb dX7_many_9 (by decide) (fun c_1 => ?_) (fun c_1 => ?_)
    · have hF := hF.1 c_1
      refine lv_iload_n hx hb dX7_many_36 rfl (lv_at hl 1 rfl) ?_
      by_cases c_2 : a1 = 0
      · have hF := hF.1 c_2
        refine lv_tableIn (off := 35) (tgt := 72) hx hb dX7_many_37 (by rw [c_2]; decide) (by rw [c_2]; decide) (by rw [c_2]; rfl) (by decide) ?_
        refine lv_aload_n hx hb dX7_many_72 rfl (lv_at hl 0 rfl) ?_
        refine gF S hK hP i7 e_M rfl 10 (by decide) k152 f_M_sorts dX7_many_73 ?_
        exact retI S hr hlocks hP hS hF dX7_many_76
      · have hF := hF.2 c_2
        by_cases c_3 : a1 = 1
        · have hF := hF.1 c_3
          refine lv_tableIn (off := 40) (tgt := 77) hx hb dX7_many_37 (by rw [c_3]; decide) (by rw [c_3]; decide) (by rw [c_3]; rfl) (by decide) ?_
          refine lv_aload_n hx hb dX7_many_77 rfl (lv_at hl 0 rfl) ?_
          refine gF S hK hP i7 e_M rfl 32 (by decide) k164 f_M_comers dX7_many_78 ?_
          exact retI S hr hlocks hP hS hF dX7_many_81
        · have hF := hF.2 c_3
          by_cases c_4 : a1 = 2
          · have hF := hF.1 c_4
            refine lv_tableIn (off := 45) (tgt := 82) hx hb dX7_many_37 (by rw [c_4]; decide) (by rw [c_4]; decide) (by rw [c_4]; rfl) (by decide) ?_
            refine lv_aload_n hx hb dX7_many_82 rfl (lv_at hl 0 rfl) ?_
            refine goI (rV (rest := []) S hK hP (ctX7_standing l D cI cJ ad had  _ _ hF) (cwV 0 hts gX7_many_X7_standing rfl rfl rfl hdV_X7_standing ⟨Nat.le_of_ble_eq_true rfl, Nat.le_of_ble_eq_true rfl⟩) e_M rfl rfl hl.1 rfl (Nat.le_of_ble_eq_true rfl) dX7_many_83 ⟨Nat.zero_le _, Nat.zero_le _⟩) hS (fun _ h => h) (fun r_5 M_5 H locs hP hS hF => ?_)
            exact retI S hr hlocks hP hS hF dX7_many_86
          · have hF := hF.2 c_4
            by_cases c_6 : a1 = 3
            · have hF := hF.1 c_6
              refine lv_tableIn (off := 50) (tgt := 87) hx hb dX7_many_37 (by rw [c_6]; decide) (by rw [c_6]; decide) (by rw [c_6]; rfl) (by decide) ?_
              refine lv_iload_n hx hb dX7_many_87 rfl (lv_at hl 2 rfl) ?_
              exact retI S hr hlocks hP hS hF dX7_many_88
            · have hF := hF.2 c_6
              by_cases c_7 : a1 = 4
              · have hF := hF.1 c_7
                refine lv_tableIn (off := 52) (tgt := 89) hx hb dX7_many_37 (by rw [c_7]; decide) (by rw [c_7]; decide) (by rw [c_7]; rfl) (by decide) ?_
                refine lv_aload_n hx hb dX7_many_89 rfl (lv_at hl 0 rfl) ?_
                refine gF S hK hP i7 e_M rfl 33 (by decide) k167 f_M_minutes dX7_many_90 ?_
                exact retI S hr hlocks hP hS hF dX7_many_93
              · have hF := hF.2 c_7
                refine lv_tableOut (tgt := 94) hx hb dX7_many_37 (by have q0 := lv_neT c_2 (k := 0) (a := 0) (by decide); have q1 := lv_neT c_3 (k := 1) (a := 1) (by decide); have q2 := lv_neT c_4 (k := 2) (a := 2) (by decide); have q3 := lv_neT c_6 (k := 3) (a := 3) (by decide); have q4 := lv_neT c_7 (k := 4) (a := 4) (by decide); omega) (by decide) ?_
                refine lv_bipush (v := -2) hx hb dX7_many_94 (by decide) ?_
                exact retI S hr hlocks hP hS hF dX7_many_96
    · have hF := hF.2 c_1
      refine lv_iload_n hx hb dX7_many_12 rfl (lv_at hl 2 rfl) ?_
      refine lv_aload_n hx hb dX7_many_13 rfl (lv_at hl 0 rfl) ?_
      refine gF S hK hP i7 e_M rfl 36 (by decide) k62 f_M_comerKind dX7_many_14 ?_
      refine lv_iload_n hx hb dX7_many_17 rfl (lv_at hl 3 rfl) ?_
      obtain ⟨hb_8, hF⟩ := hF
      refine ldA S hK hP (k := 50) rfl hb_8 dX7_many_18 ?_
      refine lv_iconst (v := 2) hx hb dX7_many_19 (by decide) ?_
      refine lv_icmp_ne (tgt := 27) hx hb dX7_many_20 (by decide) (fun c_9 => ?_) (fun c_9 => ?_)
      · have hF := hF.2 c_9
        refine lv_iconst (v := 0) hx hb dX7_many_27 (by decide) ?_
        refine lv_iadd hx hb dX7_many_28 ?_
        refine lv_istore_n (lv' := [(2, .int (x2_4 + (0 : Int32))), (0, .ref (ad 32)), (1, .int a1), (3, .int x3_4)]) hx hb dX7_many_29 rfl hl (by decide) rfl (fun ls hl => ?_)
        refine lv_iinc (v := (x3_4 + 1)) (lv' := [(3, .int (x3_4 + 1)), (2, .int (x2_4 + (0 : Int32))), (0, .ref (ad 32)), (1, .int a1)]) hx hb dX7_many_30 hl (k := 3) rfl rfl (by decide) rfl (fun ls hl => ?_)
        refine lv_goto (tgt := 4) hx hb dX7_many_33 (by decide) ?_
        exact hJ_4 _ _ _ hF _ _ _ hP hS (lv_sub hl [2, 3, 1, 0] rfl)
      · have hF := hF.1 c_9
        refine lv_iconst (v := 1) hx hb dX7_many_23 (by decide) ?_
        refine lv_goto (tgt := 28) hx hb dX7_many_24 (by decide) ?_
        refine lv_iadd hx hb dX7_many_28 ?_
        refine lv_istore_n (lv' := [(2, .int (x2_4 + (1 : Int32))), (0, .ref (ad 32)), (1, .int a1), (3, .int x3_4)]) hx hb dX7_many_29 rfl hl (by decide) rfl (fun ls hl => ?_)
        refine lv_iinc (v := (x3_4 + 1)) (lv' := [(3, .int (x3_4 + 1)), (2, .int (x2_4 + (1 : Int32))), (0, .ref (ad 32)), (1, .int a1)]) hx hb dX7_many_30 hl (k := 3) rfl rfl (by decide) rfl (fun ls hl => ?_)
        refine lv_goto (tgt := 4) hx hb dX7_many_33 (by decide) ?_
        exact hJ_4 _ _ _ hF _ _ _ hP hS (lv_sub hl [2, 3, 1, 0] rfl)
  exact key_4 _ _ _ hF _ _ _ hP hS (lv_sub hl [2, 3, 1, 0] rfl)
