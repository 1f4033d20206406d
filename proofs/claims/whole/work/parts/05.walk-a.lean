def wX6_isWithin (a0 : Int32) (a1 : Int32) (a2 : Int32) (Q : Int32 → Mm → Prop) (M : Mm) : Prop := ((a0 < a1 → (Q (0 : Int32) M)) ∧ (¬ a0 < a1 → ((a2 < a0 → (Q (0 : Int32) M)) ∧ (¬ a2 < a0 → (Q (1 : Int32) M)))))
set_option maxHeartbeats 4000000 in
set_option maxRecDepth 100000 in
theorem ctX6_isWithin (l : Launch) (D : va_G) (cI cJ : ClassId) (ad : Nat → Nat) (had : inj54 ad) (a0 : Int32) (a1 : Int32) (a2 : Int32) (Q : Int32 → Mm → Prop) (M : Mm) (hF : wX6_isWithin a0 a1 a2 Q M) : Met l yX6_isWithin wsX6_isWithin ({ frames := 0, cells := 0, slots := 0, locals := 0 } : Room) (PcW D cI cJ ad M [.int a0, .int a1, .int a2]) (QzW D cI cJ ad Q) 0 0 (Fr ad) := by
  refine entW (y := yX6_isWithin) (ret := some .boolean) (maxL := 3) (plainFor_of_name (by decide)) rfl (Nat.le_of_ble_eq_true rfl) ?_
  intro p e s m args below meth c ls S hK hr hlocks hP hS hl
  have hx := S.1
  have hb := S.2.1
  have hown := S.2.2.2.1
  have hts := S.2.2.2.2
  have hl : lv_has ls 3 [(0, .int a0), (1, .int a1), (2, .int a2)] := hl
  unfold wX6_isWithin at hF
  refine lv_iload_n hx hb dX6_isWithin_0 rfl (lv_at hl 0 rfl) ?_
  refine lv_iload_n hx hb dX6_isWithin_1 rfl (lv_at hl 1 rfl) ?_
  refine lv_icmp_lt (tgt := 14) hx hb dX6_isWithin_2 (by decide) (fun c_1 => ?_) (fun c_1 => ?_)
  · have hF := hF.1 c_1
    refine lv_iconst (v := 0) hx hb dX6_isWithin_14 (by decide) ?_
    exact retZ S hr hlocks hP hS rfl hF dX6_isWithin_15
  · have hF := hF.2 c_1
    refine lv_iload_n hx hb dX6_isWithin_5 rfl (lv_at hl 0 rfl) ?_
    refine lv_iload_n hx hb dX6_isWithin_6 rfl (lv_at hl 2 rfl) ?_
    refine lv_icmp_gt (tgt := 14) hx hb dX6_isWithin_7 (by decide) (fun c_2 => ?_) (fun c_2 => ?_)
    · have hF := hF.1 c_2
      refine lv_iconst (v := 0) hx hb dX6_isWithin_14 (by decide) ?_
      exact retZ S hr hlocks hP hS rfl hF dX6_isWithin_15
    · have hF := hF.2 c_2
      refine lv_iconst (v := 1) hx hb dX6_isWithin_10 (by decide) ?_
      refine lv_goto (tgt := 15) hx hb dX6_isWithin_11 (by decide) ?_
      exact retZ S hr hlocks hP hS rfl hF dX6_isWithin_15
def wX4_has (a1 : Int32) (Q : Int32 → Mm → Prop) (M : Mm) : Prop := (wX6_isWithin a1 (0 : Int32) (3 : Int32) (fun r_1 M_1 => (Q r_1 M_1)) M)
set_option maxHeartbeats 4000000 in
set_option maxRecDepth 100000 in
theorem ctX4_has (l : Launch) (D : va_G) (cI cJ : ClassId) (ad : Nat → Nat) (had : inj54 ad) (a1 : Int32) (Q : Int32 → Mm → Prop) (M : Mm) (hF : wX4_has a1 Q M) : Met l yX4_has wsX4_has ({ frames := 1, cells := 0, slots := 0, locals := 22 } : Room) (PcW D cI cJ ad M [.ref (ad 1), .int a1]) (QzW D cI cJ ad Q) 0 0 (Fr ad) := by
  refine entW (y := yX4_has) (ret := some .boolean) (maxL := 2) (plainFor_of_name (by decide)) rfl (Nat.le_of_ble_eq_true rfl) ?_
  intro p e s m args below meth c ls S hK hr hlocks hP hS hl
  have hx := S.1
  have hb := S.2.1
  have hown := S.2.2.2.1
  have hts := S.2.2.2.2
  have hl : lv_has ls 2 [(0, .ref (ad 1)), (1, .int a1)] := hl
  unfold wX4_has at hF
  refine lv_iload_n hx hb dX4_has_0 rfl (lv_at hl 1 rfl) ?_
  refine lv_iconst (v := 0) hx hb dX4_has_1 (by decide) ?_
  refine lv_iconst (v := 3) hx hb dX4_has_2 (by decide) ?_
  refine goZ (rSN (rest := []) S hK hP (ctX6_isWithin l D cI cJ ad had a1 (0 : Int32) (3 : Int32) _ _ hF) ⟨va_cnB 3 hts ggX4_has_X6_isWithin rfl rfl rfl (hK.2 _ nw_RX4_25) (hts (.initialized RX6) (by decide +kernel)) hdS_X6_isWithin ⟨Nat.le_of_ble_eq_true rfl, Nat.le_of_ble_eq_true rfl⟩, hts (.static yX6_isWithin) (by decide +kernel), trivial⟩ rfl hl.1 rfl (Nat.le_of_ble_eq_true rfl) dX4_has_3 ⟨Nat.zero_le _, Nat.zero_le _⟩) hS (fun _ h => h) (fun r_1 M_1 H locs hP hS hz_r_1 hF => ?_)
  exact retZ S hr hlocks hP hS hz_r_1 hF dX4_has_6
def wX6_at (k0_ : Nat) (a1 : Int32) (Q : Int32 → Mm → Prop) (M : Mm) : Prop := ((a1 < 0 → (Q (0 : Int32) M)) ∧ (¬ a1 < 0 → (((Int32.ofNat (lenA k0_)) ≤ a1 → (Q (0 : Int32) M)) ∧ (¬ (Int32.ofNat (lenA k0_)) ≤ a1 → (vp_in a1 (lenA k0_) ∧ (Q (ga M k0_ a1.toNatClampNeg) M))))))
set_option maxHeartbeats 4000000 in
set_option maxRecDepth 100000 in
theorem ctX6_at (l : Launch) (D : va_G) (cI cJ : ClassId) (ad : Nat → Nat) (had : inj54 ad) (k0_ : Nat) (hk0_ : isA k0_ = true) (a1 : Int32) (Q : Int32 → Mm → Prop) (M : Mm) (hF : wX6_at k0_ a1 Q M) : Met l yX6_at wsX6_at ({ frames := 0, cells := 0, slots := 0, locals := 0 } : Room) (PcW D cI cJ ad M [.ref (ad k0_), .int a1]) (QiW D cI cJ ad Q) 0 0 (Fr ad) := by
  refine entW (y := yX6_at) (ret := some .int) (maxL := 2) (plainFor_of_name (by decide)) rfl (Nat.le_of_ble_eq_true rfl) ?_
  intro p e s m args below meth c ls S hK hr hlocks hP hS hl
  have hx := S.1
  have hb := S.2.1
  have hown := S.2.2.2.1
  have hts := S.2.2.2.2
  have hl : lv_has ls 2 [(0, .ref (ad k0_)), (1, .int a1)] := hl
  unfold wX6_at at hF
  refine lv_iload_n hx hb dX6_at_0 rfl (lv_at hl 1 rfl) ?_
  refine lv_if_lt (tgt := 16) hx hb dX6_at_1 (by decide) (fun c_1 => ?_) (fun c_1 => ?_)
  · have hF := hF.1 c_1
    refine lv_iconst (v := 0) hx hb dX6_at_16 (by decide) ?_
    exact retI S hr hlocks hP hS hF dX6_at_17
  · have hF := hF.2 c_1
    refine lv_iload_n hx hb dX6_at_4 rfl (lv_at hl 1 rfl) ?_
    refine lv_aload_n hx hb dX6_at_5 rfl (lv_at hl 0 rfl) ?_
    refine alA S hK hP hk0_ dX6_at_6 ?_
    refine lv_icmp_ge (tgt := 16) hx hb dX6_at_7 (by decide) (fun c_2 => ?_) (fun c_2 => ?_)
    · have hF := hF.1 c_2
      refine lv_iconst (v := 0) hx hb dX6_at_16 (by decide) ?_
      exact retI S hr hlocks hP hS hF dX6_at_17
    · have hF := hF.2 c_2
      refine lv_aload_n hx hb dX6_at_10 rfl (lv_at hl 0 rfl) ?_
      refine lv_iload_n hx hb dX6_at_11 rfl (lv_at hl 1 rfl) ?_
      obtain ⟨hb_3, hF⟩ := hF
      refine ldA S hK hP (k := k0_) hk0_ hb_3 dX6_at_12 ?_
      refine lv_goto (tgt := 17) hx hb dX6_at_13 (by decide) ?_
      exact retI S hr hlocks hP hS hF dX6_at_17
def wX4_hasNothing (a1 : Int32) (Q : Int32 → Mm → Prop) (M : Mm) : Prop := (wX6_at 8 a1 (fun r_1 M_1 => ((r_1 = (-1 : Int32) → (Q (1 : Int32) M_1)) ∧ (¬ r_1 = (-1 : Int32) → (Q (0 : Int32) M_1)))) M)
set_option maxHeartbeats 4000000 in
set_option maxRecDepth 100000 in
theorem ctX4_hasNothing (l : Launch) (D : va_G) (cI cJ : ClassId) (ad : Nat → Nat) (had : inj54 ad) (a1 : Int32) (Q : Int32 → Mm → Prop) (M : Mm) (hF : wX4_hasNothing a1 Q M) : Met l yX4_hasNothing wsX4_hasNothing ({ frames := 1, cells := 0, slots := 0, locals := 21 } : Room) (PcW D cI cJ ad M [.ref (ad 1), .int a1]) (QzW D cI cJ ad Q) 0 0 (Fr ad) := by
  refine entW (y := yX4_hasNothing) (ret := some .boolean) (maxL := 2) (plainFor_of_name (by decide)) rfl (Nat.le_of_ble_eq_true rfl) ?_
  intro p e s m args below meth c ls S hK hr hlocks hP hS hl
  have hx := S.1
  have hb := S.2.1
  have hown := S.2.2.2.1
  have hts := S.2.2.2.2
  have i4 : ∀ w ∈ wsX40, w ∈ wsX4_hasNothing := by decide +kernel
  have k9 := hts (.fieldLink RX4 9 "RopeLine$Sheets" "lanes" "[I") (by decide +kernel)
  have hl : lv_has ls 2 [(0, .ref (ad 1)), (1, .int a1)] := hl
  unfold wX4_hasNothing at hF
  refine lv_aload_n hx hb dX4_hasNothing_0 rfl (lv_at hl 0 rfl) ?_
  refine gF S hK hP i4 e_S rfl 0 (by decide) k9 f_S_lanes dX4_hasNothing_1 ?_
  refine lv_iload_n hx hb dX4_hasNothing_4 rfl (lv_at hl 1 rfl) ?_
  refine goI (rSN (rest := []) S hK hP (ctX6_at l D cI cJ ad had 8 rfl a1 _ _ hF) ⟨va_cnB 2 hts ggX4_hasNothing_X6_at rfl rfl rfl (hK.2 _ nw_RX4_29) (hts (.initialized RX6) (by decide +kernel)) hdS_X6_at ⟨Nat.le_of_ble_eq_true rfl, Nat.le_of_ble_eq_true rfl⟩, hts (.static yX6_at) (by decide +kernel), trivial⟩ rfl hl.1 rfl (Nat.le_of_ble_eq_true rfl) dX4_hasNothing_5 ⟨Nat.zero_le _, Nat.zero_le _⟩) hS (fun _ h => h) (fun r_1 M_1 H locs hP hS hF => ?_)
  refine lv_iconst (v := -1) hx hb dX4_hasNothing_8 (by decide) ?_
  refine lv_icmp_ne (tgt := 16) hx hb dX4_hasNothing_9 (by decide) (fun c_2 => ?_) (fun c_2 => ?_)
  · have hF := hF.2 c_2
    refine lv_iconst (v := 0) hx hb dX4_hasNothing_16 (by decide) ?_
    exact retZ S hr hlocks hP hS rfl hF dX4_hasNothing_17
  · have hF := hF.1 c_2
    refine lv_iconst (v := 1) hx hb dX4_hasNothing_12 (by decide) ?_
    refine lv_goto (tgt := 17) hx hb dX4_hasNothing_13 (by decide) ?_
    exact retZ S hr hlocks hP hS rfl hF dX4_hasNothing_17
def wX4_isOfAnotherLane (a1 : Int32) (a2 : Int32) (Q : Int32 → Mm → Prop) (M : Mm) : Prop := (wX4_hasNothing a1 (fun r_1 M_1 => ((r_1 = 0 → (wX6_at 8 a1 (fun r_3 M_3 => ((r_3 = a2 → (Q (0 : Int32) M_3)) ∧ (¬ r_3 = a2 → (Q (1 : Int32) M_3)))) M_1)) ∧ (¬ r_1 = 0 → (Q (0 : Int32) M_1)))) M)
set_option maxHeartbeats 4000000 in
set_option maxRecDepth 100000 in
theorem ctX4_isOfAnotherLane (l : Launch) (D : va_G) (cI cJ : ClassId) (ad : Nat → Nat) (had : inj54 ad) (a1 : Int32) (a2 : Int32) (Q : Int32 → Mm → Prop) (M : Mm) (hF : wX4_isOfAnotherLane a1 a2 Q M) : Met l yX4_isOfAnotherLane wsX4_isOfAnotherLane ({ frames := 2, cells := 0, slots := 0, locals := 42 } : Room) (PcW D cI cJ ad M [.ref (ad 1), .int a1, .int a2]) (QzW D cI cJ ad Q) 0 0 (Fr ad) := by
  refine entW (y := yX4_isOfAnotherLane) (ret := some .boolean) (maxL := 3) (plainFor_of_name (by decide)) rfl (Nat.le_of_ble_eq_true rfl) ?_
  intro p e s m args below meth c ls S hK hr hlocks hP hS hl
  have hx := S.1
  have hb := S.2.1
  have hown := S.2.2.2.1
  have hts := S.2.2.2.2
  have i4 : ∀ w ∈ wsX40, w ∈ wsX4_isOfAnotherLane := by decide +kernel
  have k9 := hts (.fieldLink RX4 9 "RopeLine$Sheets" "lanes" "[I") (by decide +kernel)
  have hl : lv_has ls 3 [(0, .ref (ad 1)), (1, .int a1), (2, .int a2)] := hl
  unfold wX4_isOfAnotherLane at hF
  refine lv_aload_n hx hb dX4_isOfAnotherLane_0 rfl (lv_at hl 0 rfl) ?_
  refine lv_iload_n hx hb dX4_isOfAnotherLane_1 rfl (lv_at hl 1 rfl) ?_
  refine goZ (rV (rest := []) S hK hP (ctX4_hasNothing l D cI cJ ad had a1 _ _ hF) (cwV 1 hts gX4_isOfAnotherLane_X4_hasNothing rfl rfl rfl hdV_X4_hasNothing ⟨Nat.le_of_ble_eq_true rfl, Nat.le_of_ble_eq_true rfl⟩) e_S rfl rfl hl.1 rfl (Nat.le_of_ble_eq_true rfl) dX4_isOfAnotherLane_2 ⟨Nat.zero_le _, Nat.zero_le _⟩) hS (fun _ h => h) (fun r_1 M_1 H locs hP hS hz_r_1 hF => ?_)
  refine lv_if_ne (tgt := 24) hx hb dX4_isOfAnotherLane_5 (by decide) (fun c_2 => ?_) (fun c_2 => ?_)
  · have hF := hF.2 c_2
    refine lv_iconst (v := 0) hx hb dX4_isOfAnotherLane_24 (by decide) ?_
    exact retZ S hr hlocks hP hS rfl hF dX4_isOfAnotherLane_25
  · have hF := hF.1 c_2
    refine lv_aload_n hx hb dX4_isOfAnotherLane_8 rfl (lv_at hl 0 rfl) ?_
    refine gF S hK hP i4 e_S rfl 0 (by decide) k9 f_S_lanes dX4_isOfAnotherLane_9 ?_
    refine lv_iload_n hx hb dX4_isOfAnotherLane_12 rfl (lv_at hl 1 rfl) ?_
    refine goI (rSN (rest := []) S hK hP (ctX6_at l D cI cJ ad had 8 rfl a1 _ _ hF) ⟨va_cnB 2 hts ggX4_isOfAnotherLane_X6_at rfl rfl rfl (hK.2 _ nw_RX4_29) (hts (.initialized RX6) (by decide +kernel)) hdS_X6_at ⟨Nat.le_of_ble_eq_true rfl, Nat.le_of_ble_eq_true rfl⟩, hts (.static yX6_at) (by decide +kernel), trivial⟩ rfl hl.1 rfl (Nat.le_of_ble_eq_true rfl) dX4_isOfAnotherLane_13 ⟨Nat.zero_le _, Nat.zero_le _⟩) hS (fun _ h => h) (fun r_3 M_3 H locs hP hS hF => ?_)
    refine lv_iload_n hx hb dX4_isOfAnotherLane_16 rfl (lv_at hl 2 rfl) ?_
    refine lv_icmp_eq (tgt := 24) hx hb dX4_isOfAnotherLane_17 (by decide) (fun c_4 => ?_) (fun c_4 => ?_)
    · have hF := hF.1 c_4
      refine lv_iconst (v := 0) hx hb dX4_isOfAnotherLane_24 (by decide) ?_
      exact retZ S hr hlocks hP hS rfl hF dX4_isOfAnotherLane_25
    · have hF := hF.2 c_4
      refine lv_iconst (v := 1) hx hb dX4_isOfAnotherLane_20 (by decide) ?_
      refine lv_goto (tgt := 25) hx hb dX4_isOfAnotherLane_21 (by decide) ?_
      exact retZ S hr hlocks hP hS rfl hF dX4_isOfAnotherLane_25
def wX4_sizeOf (a1 : Int32) (Q : Int32 → Mm → Prop) (M : Mm) : Prop := (wX6_at 9 a1 (fun r_1 M_1 => (Q r_1 M_1)) M)
set_option maxHeartbeats 4000000 in
set_option maxRecDepth 100000 in
theorem ctX4_sizeOf (l : Launch) (D : va_G) (cI cJ : ClassId) (ad : Nat → Nat) (had : inj54 ad) (a1 : Int32) (Q : Int32 → Mm → Prop) (M : Mm) (hF : wX4_sizeOf a1 Q M) : Met l yX4_sizeOf wsX4_sizeOf ({ frames := 1, cells := 0, slots := 0, locals := 21 } : Room) (PcW D cI cJ ad M [.ref (ad 1), .int a1]) (QiW D cI cJ ad Q) 0 0 (Fr ad) := by
  refine entW (y := yX4_sizeOf) (ret := some .int) (maxL := 2) (plainFor_of_name (by decide)) rfl (Nat.le_of_ble_eq_true rfl) ?_
  intro p e s m args below meth c ls S hK hr hlocks hP hS hl
  have hx := S.1
  have hb := S.2.1
  have hown := S.2.2.2.1
  have hts := S.2.2.2.2
  have i4 : ∀ w ∈ wsX40, w ∈ wsX4_sizeOf := by decide +kernel
  have k15 := hts (.fieldLink RX4 15 "RopeLine$Sheets" "sizes" "[I") (by decide +kernel)
  have hl : lv_has ls 2 [(0, .ref (ad 1)), (1, .int a1)] := hl
  unfold wX4_sizeOf at hF
  refine lv_aload_n hx hb dX4_sizeOf_0 rfl (lv_at hl 0 rfl) ?_
  refine gF S hK hP i4 e_S rfl 1 (by decide) k15 f_S_sizes dX4_sizeOf_1 ?_
  refine lv_iload_n hx hb dX4_sizeOf_4 rfl (lv_at hl 1 rfl) ?_
  refine goI (rSN (rest := []) S hK hP (ctX6_at l D cI cJ ad had 9 rfl a1 _ _ hF) ⟨va_cnB 2 hts ggX4_sizeOf_X6_at rfl rfl rfl (hK.2 _ nw_RX4_29) (hts (.initialized RX6) (by decide +kernel)) hdS_X6_at ⟨Nat.le_of_ble_eq_true rfl, Nat.le_of_ble_eq_true rfl⟩, hts (.static yX6_at) (by decide +kernel), trivial⟩ rfl hl.1 rfl (Nat.le_of_ble_eq_true rfl) dX4_sizeOf_5 ⟨Nat.zero_le _, Nat.zero_le _⟩) hS (fun _ h => h) (fun r_1 M_1 H locs hP hS hF => ?_)
  exact retI S hr hlocks hP hS hF dX4_sizeOf_8
def wX4_indexOf (a1 : Int32) (a2 : Int32) (Q : Int32 → Mm → Prop) (M : Mm) : Prop := (Q ((a1 * (60 : Int32)) + a2) M)
set_option maxHeartbeats 4000000 in
set_option maxRecDepth 100000 in
theorem ctX4_indexOf (l : Launch) (D : va_G) (cI cJ : ClassId) (ad : Nat → Nat) (had : inj54 ad) (a1 : Int32) (a2 : Int32) (Q : Int32 → Mm → Prop) (M : Mm) (hF : wX4_indexOf a1 a2 Q M) : Met l yX4_indexOf wsX4_indexOf ({ frames := 0, cells := 0, slots := 0, locals := 0 } : Room) (PcW D cI cJ ad M [.ref (ad 1), .int a1, .int a2]) (QiW D cI cJ ad Q) 0 0 (Fr ad) := by
  refine entW (y := yX4_indexOf) (ret := some .int) (maxL := 3) (plainFor_of_name (by decide)) rfl (Nat.le_of_ble_eq_true rfl) ?_
  intro p e s m args below meth c ls S hK hr hlocks hP hS hl
  have hx := S.1
  have hb := S.2.1
  have hown := S.2.2.2.1
  have hts := S.2.2.2.2
  have hl : lv_has ls 3 [(0, .ref (ad 1)), (1, .int a1), (2, .int a2)] := hl
  unfold wX4_indexOf at hF
  refine lv_iload_n hx hb dX4_indexOf_0 rfl (lv_at hl 1 rfl) ?_
  refine lv_bipush (v := 60) hx hb dX4_indexOf_1 (by decide) ?_
  refine lv_imul hx hb dX4_indexOf_3 ?_
  refine lv_iload_n hx hb dX4_indexOf_4 rfl (lv_at hl 2 rfl) ?_
  refine lv_iadd hx hb dX4_indexOf_5 ?_
  exact retI S hr hlocks hP hS hF dX4_indexOf_6
def wX5_codeAtNext (Q : Int32 → Mm → Prop) (M : Mm) : Prop := (wX6_at 10 ((gi M 3) + (gi M 5)) (fun r_1 M_1 => (Q r_1 M_1)) M)
set_option maxHeartbeats 4000000 in
set_option maxRecDepth 100000 in
theorem ctX5_codeAtNext (l : Launch) (D : va_G) (cI cJ : ClassId) (ad : Nat → Nat) (had : inj54 ad)  (Q : Int32 → Mm → Prop) (M : Mm) (hF : wX5_codeAtNext Q M) : Met l yX5_codeAtNext wsX5_codeAtNext ({ frames := 1, cells := 0, slots := 0, locals := 21 } : Room) (PcW D cI cJ ad M [.ref (ad 2)]) (QiW D cI cJ ad Q) 0 0 (Fr ad) := by
  refine entW (y := yX5_codeAtNext) (ret := some .int) (maxL := 1) (plainFor_of_name (by decide)) rfl (Nat.le_of_ble_eq_true rfl) ?_
  intro p e s m args below meth c ls S hK hr hlocks hP hS hl
  have hx := S.1
  have hb := S.2.1
  have hown := S.2.2.2.1
  have hts := S.2.2.2.2
  have i5 : ∀ w ∈ wsX50, w ∈ wsX5_codeAtNext := by decide +kernel
  have i4 : ∀ w ∈ wsX40, w ∈ wsX5_codeAtNext := by decide +kernel
  have k18 := hts (.fieldLink RX5 18 "RopeLine$Text" "sheets" "LRopeLine$Sheets;") (by decide +kernel)
  have k28 := hts (.fieldLink RX5 28 "RopeLine$Text" "start" "I") (by decide +kernel)
  have k35 := hts (.fieldLink RX5 35 "RopeLine$Text" "next" "I") (by decide +kernel)
  have hl : lv_has ls 1 [(0, .ref (ad 2))] := hl
  unfold wX5_codeAtNext at hF
  refine lv_aload_n hx hb dX5_codeAtNext_0 rfl (lv_at hl 0 rfl) ?_
  refine gF S hK hP i5 e_T rfl 2 (by decide) k18 f_T_sheets dX5_codeAtNext_1 ?_
  refine gN S hK hP i4 e_S rfl 2 (by decide) nw_RX5_80 f_S_cells dX5_codeAtNext_4 ?_
  refine lv_aload_n hx hb dX5_codeAtNext_7 rfl (lv_at hl 0 rfl) ?_
  refine gF S hK hP i5 e_T rfl 3 (by decide) k28 f_T_start dX5_codeAtNext_8 ?_
  refine lv_aload_n hx hb dX5_codeAtNext_11 rfl (lv_at hl 0 rfl) ?_
  refine gF S hK hP i5 e_T rfl 5 (by decide) k35 f_T_next dX5_codeAtNext_12 ?_
  refine lv_iadd hx hb dX5_codeAtNext_15 ?_
  refine goI (rSN (rest := []) S hK hP (ctX6_at l D cI cJ ad had 10 rfl ((gi M 3) + (gi M 5)) _ _ hF) ⟨va_cnB 2 hts ggX5_codeAtNext_X6_at rfl rfl rfl (hK.2 _ nw_RX5_83) (hts (.initialized RX6) (by decide +kernel)) hdS_X6_at ⟨Nat.le_of_ble_eq_true rfl, Nat.le_of_ble_eq_true rfl⟩, hts (.static yX6_at) (by decide +kernel), trivial⟩ rfl hl.1 rfl (Nat.le_of_ble_eq_true rfl) dX5_codeAtNext_16 ⟨Nat.zero_le _, Nat.zero_le _⟩) hS (fun _ h => h) (fun r_1 M_1 H locs hP hS hF => ?_)
  exact retI S hr hlocks hP hS hF dX5_codeAtNext_19
def wX5_takes (a1 : Int32) (Q : Int32 → Mm → Prop) (M : Mm) : Prop := (((gi M 4) ≤ (gi M 5) → (Q (0 : Int32) M)) ∧ (¬ (gi M 4) ≤ (gi M 5) → (wX5_codeAtNext (fun r_2 M_2 => ((r_2 = a1 → (∀ M_4 : Mm, M_4 = (si M_2 5 ((gi M_2 5) + (1 : Int32))) → (Q (1 : Int32) M_4))) ∧ (¬ r_2 = a1 → (Q (0 : Int32) M_2)))) M)))
set_option maxHeartbeats 4000000 in
set_option maxRecDepth 100000 in
theorem ctX5_takes (l : Launch) (D : va_G) (cI cJ : ClassId) (ad : Nat → Nat) (had : inj54 ad) (a1 : Int32) (Q : Int32 → Mm → Prop) (M : Mm) (hF : wX5_takes a1 Q M) : Met l yX5_takes wsX5_takes ({ frames := 2, cells := 0, slots := 0, locals := 41 } : Room) (PcW D cI cJ ad M [.ref (ad 2), .int a1]) (QzW D cI cJ ad Q) 0 0 (Fr ad) := by
  refine entW (y := yX5_takes) (ret := some .boolean) (maxL := 2) (plainFor_of_name (by decide)) rfl (Nat.le_of_ble_eq_true rfl) ?_
  intro p e s m args below meth c ls S hK hr hlocks hP hS hl
  have hx := S.1
  have hb := S.2.1
  have hown := S.2.2.2.1
  have hts := S.2.2.2.2
  have i5 : ∀ w ∈ wsX50, w ∈ wsX5_takes := by decide +kernel
  have k35 := hts (.fieldLink RX5 35 "RopeLine$Text" "next" "I") (by decide +kernel)
  have k32 := hts (.fieldLink RX5 32 "RopeLine$Text" "codes" "I") (by decide +kernel)
  have hl : lv_has ls 2 [(0, .ref (ad 2)), (1, .int a1)] := hl
  unfold wX5_takes at hF
  refine lv_aload_n hx hb dX5_takes_0 rfl (lv_at hl 0 rfl) ?_
  refine gF S hK hP i5 e_T rfl 5 (by decide) k35 f_T_next dX5_takes_1 ?_
  refine lv_aload_n hx hb dX5_takes_4 rfl (lv_at hl 0 rfl) ?_
  refine gF S hK hP i5 e_T rfl 4 (by decide) k32 f_T_codes dX5_takes_5 ?_
  refine lv_icmp_ge (tgt := 19) hx hb dX5_takes_8 (by decide) (fun c_1 => ?_) (fun c_1 => ?_)
  · have hF := hF.1 c_1
    refine lv_iconst (v := 0) hx hb dX5_takes_19 (by decide) ?_
    exact retZ S hr hlocks hP hS rfl hF dX5_takes_20
  · have hF := hF.2 c_1
    refine lv_aload_n hx hb dX5_takes_11 rfl (lv_at hl 0 rfl) ?_
    refine goI (rV (rest := []) S hK hP (ctX5_codeAtNext l D cI cJ ad had  _ _ hF) (cwV 0 hts gX5_takes_X5_codeAtNext rfl rfl rfl hdV_X5_codeAtNext ⟨Nat.le_of_ble_eq_true rfl, Nat.le_of_ble_eq_true rfl⟩) e_T rfl rfl hl.1 rfl (Nat.le_of_ble_eq_true rfl) dX5_takes_12 ⟨Nat.zero_le _, Nat.zero_le _⟩) hS (fun _ h => h) (fun r_2 M_2 H locs hP hS hF => ?_)
    refine lv_iload_n hx hb dX5_takes_15 rfl (lv_at hl 1 rfl) ?_
    refine lv_icmp_eq (tgt := 21) hx hb dX5_takes_16 (by decide) (fun c_3 => ?_) (fun c_3 => ?_)
    · have hF := hF.1 c_3
      refine lv_aload_n hx hb dX5_takes_21 rfl (lv_at hl 0 rfl) ?_
      refine lv_dup hx hb dX5_takes_22 rfl ?_
      refine gF S hK hP i5 e_T rfl 5 (by decide) k35 f_T_next dX5_takes_23 ?_
      refine lv_iconst (v := 1) hx hb dX5_takes_26 (by decide) ?_
      refine lv_iadd hx hb dX5_takes_27 ?_
      refine pF S hK had hP hS i5 tyX5_ok nmX5 e_T rfl 5 (by decide) k35 rfl rfl rfl (Nat.lt_of_lt_of_eq (by decide) len_T.symm) s_T_next dX5_takes_28 (fun M_4 H locs eM_4 hP hS => ?_)
      have hF := hF M_4 eM_4
      refine lv_iconst (v := 1) hx hb dX5_takes_31 (by decide) ?_
      exact retZ S hr hlocks hP hS rfl hF dX5_takes_32
    · have hF := hF.2 c_3
      refine lv_iconst (v := 0) hx hb dX5_takes_19 (by decide) ?_
      exact retZ S hr hlocks hP hS rfl hF dX5_takes_20
def wX5_isDigitNext (Q : Int32 → Mm → Prop) (M : Mm) : Prop := (((gi M 4) ≤ (gi M 5) → (Q (0 : Int32) M)) ∧ (¬ (gi M 4) ≤ (gi M 5) → (wX5_codeAtNext (fun r_2 M_2 => (wX6_isWithin r_2 (48 : Int32) (57 : Int32) (fun r_3 M_3 => ((r_3 = 0 → (Q (0 : Int32) M_3)) ∧ (¬ r_3 = 0 → (Q (1 : Int32) M_3)))) M_2)) M)))
set_option maxHeartbeats 4000000 in
set_option maxRecDepth 100000 in
theorem ctX5_isDigitNext (l : Launch) (D : va_G) (cI cJ : ClassId) (ad : Nat → Nat) (had : inj54 ad)  (Q : Int32 → Mm → Prop) (M : Mm) (hF : wX5_isDigitNext Q M) : Met l yX5_isDigitNext wsX5_isDigitNext ({ frames := 2, cells := 0, slots := 0, locals := 41 } : Room) (PcW D cI cJ ad M [.ref (ad 2)]) (QzW D cI cJ ad Q) 0 0 (Fr ad) := by
  refine entW (y := yX5_isDigitNext) (ret := some .boolean) (maxL := 1) (plainFor_of_name (by decide)) rfl (Nat.le_of_ble_eq_true rfl) ?_
  intro p e s m args below meth c ls S hK hr hlocks hP hS hl
  have hx := S.1
  have hb := S.2.1
  have hown := S.2.2.2.1
  have hts := S.2.2.2.2
  have i5 : ∀ w ∈ wsX50, w ∈ wsX5_isDigitNext := by decide +kernel
  have k35 := hts (.fieldLink RX5 35 "RopeLine$Text" "next" "I") (by decide +kernel)
  have k32 := hts (.fieldLink RX5 32 "RopeLine$Text" "codes" "I") (by decide +kernel)
  have hl : lv_has ls 1 [(0, .ref (ad 2))] := hl
  unfold wX5_isDigitNext at hF
  refine lv_aload_n hx hb dX5_isDigitNext_0 rfl (lv_at hl 0 rfl) ?_
  refine gF S hK hP i5 e_T rfl 5 (by decide) k35 f_T_next dX5_isDigitNext_1 ?_
  refine lv_aload_n hx hb dX5_isDigitNext_4 rfl (lv_at hl 0 rfl) ?_
  refine gF S hK hP i5 e_T rfl 4 (by decide) k32 f_T_codes dX5_isDigitNext_5 ?_
  refine lv_icmp_ge (tgt := 29) hx hb dX5_isDigitNext_8 (by decide) (fun c_1 => ?_) (fun c_1 => ?_)
  · have hF := hF.1 c_1
    refine lv_iconst (v := 0) hx hb dX5_isDigitNext_29 (by decide) ?_
    exact retZ S hr hlocks hP hS rfl hF dX5_isDigitNext_30
  · have hF := hF.2 c_1
    refine lv_aload_n hx hb dX5_isDigitNext_11 rfl (lv_at hl 0 rfl) ?_
    refine goI (rV (rest := []) S hK hP (ctX5_codeAtNext l D cI cJ ad had  _ _ hF) (cwV 0 hts gX5_isDigitNext_X5_codeAtNext rfl rfl rfl hdV_X5_codeAtNext ⟨Nat.le_of_ble_eq_true rfl, Nat.le_of_ble_eq_true rfl⟩) e_T rfl rfl hl.1 rfl (Nat.le_of_ble_eq_true rfl) dX5_isDigitNext_12 ⟨Nat.zero_le _, Nat.zero_le _⟩) hS (fun _ h => h) (fun r_2 M_2 H locs hP hS hF => ?_)
    refine lv_bipush (v := 48) hx hb dX5_isDigitNext_15 (by decide) ?_
    refine lv_bipush (v := 57) hx hb dX5_isDigitNext_17 (by decide) ?_
    refine goZ (rSN (rest := []) S hK hP (ctX6_isWithin l D cI cJ ad had r_2 (48 : Int32) (57 : Int32) _ _ hF) ⟨va_cnB 3 hts ggX5_isDigitNext_X6_isWithin rfl rfl rfl (hK.2 _ nw_RX5_76) (hts (.initialized RX6) (by decide +kernel)) hdS_X6_isWithin ⟨Nat.le_of_ble_eq_true rfl, Nat.le_of_ble_eq_true rfl⟩, hts (.static yX6_isWithin) (by decide +kernel), trivial⟩ rfl hl.1 rfl (Nat.le_of_ble_eq_true rfl) dX5_isDigitNext_19 ⟨Nat.zero_le _, Nat.zero_le _⟩) hS (fun _ h => h) (fun r_3 M_3 H locs hP hS hz_r_3 hF => ?_)
    refine lv_if_eq (tgt := 29) hx hb dX5_isDigitNext_22 (by decide) (fun c_4 => ?_) (fun c_4 => ?_)
    · have hF := hF.1 c_4
      refine lv_iconst (v := 0) hx hb dX5_isDigitNext_29 (by decide) ?_
      exact retZ S hr hlocks hP hS rfl hF dX5_isDigitNext_30
    · have hF := hF.2 c_4
      refine lv_iconst (v := 1) hx hb dX5_isDigitNext_25 (by decide) ?_
      refine lv_goto (tgt := 30) hx hb dX5_isDigitNext_26 (by decide) ?_
      exact retZ S hr hlocks hP hS rfl hF dX5_isDigitNext_30
def bX5_takesNumber_13 (a1 : Int32) (a2 : Int32) (y3_13 : Int32) (Q : Int32 → Mm → Prop) (J_13 : Int32 → Mm → Prop) (x4_13 : Int32) (m13 : Mm) : Prop := (((3 : Int32) ≤ x4_13 → (((gi m13 5) ≤ y3_13 → (∀ M_4 : Mm, M_4 = (si m13 5 y3_13) → (Q (0 : Int32) M_4))) ∧ (¬ (gi m13 5) ≤ y3_13 → (wX6_isWithin (gi m13 6) a1 a2 (fun r_5 M_5 => ((r_5 = 0 → (∀ M_7 : Mm, M_7 = (si M_5 5 y3_13) → (Q (0 : Int32) M_7))) ∧ (¬ r_5 = 0 → (Q (1 : Int32) M_5)))) m13)))) ∧ (¬ (3 : Int32) ≤ x4_13 → (wX5_isDigitNext (fun r_8 M_8 => ((r_8 = 0 → (((gi M_8 5) ≤ y3_13 → (∀ M_11 : Mm, M_11 = (si M_8 5 y3_13) → (Q (0 : Int32) M_11))) ∧ (¬ (gi M_8 5) ≤ y3_13 → (wX6_isWithin (gi M_8 6) a1 a2 (fun r_12 M_12 => ((r_12 = 0 → (∀ M_14 : Mm, M_14 = (si M_12 5 y3_13) → (Q (0 : Int32) M_14))) ∧ (¬ r_12 = 0 → (Q (1 : Int32) M_12)))) M_8)))) ∧ (¬ r_8 = 0 → (wX5_codeAtNext (fun r_15 M_15 => (∀ M_16 : Mm, M_16 = (si M_15 6 ((((10 : Int32) * (gi M_8 6)) + r_15) - (48 : Int32))) → (∀ M_17 : Mm, M_17 = (si M_16 5 ((gi M_16 5) + (1 : Int32))) → (J_13 (x4_13 + 1) M_17)))) M_8)))) m13)))
def lX5_takesNumber_13 (a1 : Int32) (a2 : Int32) (y3_13 : Int32) (Q : Int32 → Mm → Prop) (x4_13 : Int32) (m13 : Mm) : Prop := ∀ I : Int32 → Mm → Prop, (∀ J : Int32 → Mm → Prop, (∀ (x4_13 : Int32) (m : Mm), J x4_13 m → I x4_13 m) → ∀ (x4_13 : Int32) (m : Mm), bX5_takesNumber_13 a1 a2 y3_13 Q J x4_13 m → I x4_13 m) → I x4_13 m13
theorem lX5_takesNumber_13_mk (a1 : Int32) (a2 : Int32) (y3_13 : Int32) (Q : Int32 → Mm → Prop) (x4_13 : Int32) (m13 : Mm) (h : bX5_takesNumber_13 a1 a2 y3_13 Q (lX5_takesNumber_13 a1 a2 y3_13 Q) x4_13 m13) : lX5_takesNumber_13 a1 a2 y3_13 Q x4_13 m13 := fun I hI => hI (lX5_takesNumber_13 a1 a2 y3_13 Q) (fun _ _ q => q I hI) _ _ h
def wX5_takesNumber (a1 : Int32) (a2 : Int32) (Q : Int32 → Mm → Prop) (M : Mm) : Prop := (∀ M_1 : Mm, M_1 = (si M 6 (0 : Int32)) → (lX5_takesNumber_13 a1 a2 (gi M 5) Q (0 : Int32) M_1))
set_option maxHeartbeats 4000000 in
set_option maxRecDepth 100000 in
theorem ctX5_takesNumber (l : Launch) (D : va_G) (cI cJ : ClassId) (ad : Nat → Nat) (had : inj54 ad) (a1 : Int32) (a2 : Int32) (Q : Int32 → Mm → Prop) (M : Mm) (hF : wX5_takesNumber a1 a2 Q M) : Met l yX5_takesNumber wsX5_takesNumber ({ frames := 3, cells := 0, slots := 0, locals := 61 } : Room) (PcW D cI cJ ad M [.ref (ad 2), .int a1, .int a2]) (QzW D cI cJ ad Q) 0 0 (Fr ad) := by
  refine entW (y := yX5_takesNumber) (ret := some .boolean) (maxL := 5) (plainFor_of_name (by decide)) rfl (Nat.le_of_ble_eq_true rfl) ?_
  intro p e s m args below meth c ls S hK hr hlocks hP hS hl
  have hx := S.1
  have hb := S.2.1
  have hown := S.2.2.2.1
  have hts := S.2.2.2.2
  have i5 : ∀ w ∈ wsX50, w ∈ wsX5_takesNumber := by decide +kernel
  have k35 := hts (.fieldLink RX5 35 "RopeLine$Text" "next" "I") (by decide +kernel)
  have k52 := hts (.fieldLink RX5 52 "RopeLine$Text" "number" "I") (by decide +kernel)
  have hl : lv_has ls 5 [(0, .ref (ad 2)), (1, .int a1), (2, .int a2)] := hl
  unfold wX5_takesNumber at hF
  refine lv_aload_n hx hb dX5_takesNumber_0 rfl (lv_at hl 0 rfl) ?_
  refine gF S hK hP i5 e_T rfl 5 (by decide) k35 f_T_next dX5_takesNumber_1 ?_
  refine lv_istore_n (lv' := [(3, .int (gi M 5)), (0, .ref (ad 2)), (1, .int a1), (2, .int a2)]) hx hb dX5_takesNumber_4 rfl hl (by decide) rfl (fun ls hl => ?_)
  refine lv_aload_n hx hb dX5_takesNumber_5 rfl (lv_at hl 1 rfl) ?_
  refine lv_iconst (v := 0) hx hb dX5_takesNumber_6 (by decide) ?_
  refine pF S hK had hP hS i5 tyX5_ok nmX5 e_T rfl 6 (by decide) k52 rfl rfl rfl (Nat.lt_of_lt_of_eq (by decide) len_T.symm) s_T_number dX5_takesNumber_7 (fun M_1 H locs eM_1 hP hS => ?_)
  have hF := hF M_1 eM_1
  refine lv_iconst (v := 0) hx hb dX5_takesNumber_10 (by decide) ?_
  refine lv_istore (lv' := [(4, .int (0 : Int32)), (3, .int (gi M 5)), (0, .ref (ad 2)), (1, .int a1), (2, .int a2)]) hx hb dX5_takesNumber_11 hl (by decide) rfl (fun ls hl => ?_)
  have key_13 : ∀ (y3_13 : Int32) (x4_13 : Int32) (m13 : Mm), (lX5_takesNumber_13 a1 a2 y3_13 Q x4_13 m13) → Wc p l e ({ frames := 3, cells := 0, slots := 0, locals := 61 } : Room) s m args below meth c D cI cJ ad (MQ below (QzW D cI cJ ad Q) args s 0 0 (Fr ad)) 5 13 [(0, .ref (ad 2)), (1, .int a1), (2, .int a2), (3, .int y3_13), (4, .int x4_13)] m13 := by
    intro y3_13 x4_13 m13 hL
    refine hL (fun x4_13 m13 => Wc p l e ({ frames := 3, cells := 0, slots := 0, locals := 61 } : Room) s m args below meth c D cI cJ ad (MQ below (QzW D cI cJ ad Q) args s 0 0 (Fr ad)) 5 13 [(0, .ref (ad 2)), (1, .int a1), (2, .int a2), (3, .int y3_13), (4, .int x4_13)] m13) ?_
    intro J_13 hJ_13 x4_13 m13 hF H locs ls hP hS hl
    unfold bX5_takesNumber_13 at hF
    refine lv_iload hx hb dX5_takesNumber_13 (lv_at hl 4 rfl) ?_
    refine lv_iconst (v := 3) hx hb dX5_takesNumber_15 (by decide) ?_
    refine lv_icmp_ge (tgt := 61) hx hb dX5_takesNumber_16 (by decide) (fun c_2 => ?_) (fun c_2 => ?_)
    · have hF := hF.1 c_2
      refine lv_aload_n hx hb dX5_takesNumber_61 rfl (lv_at hl 0 rfl) ?_
      refine gF S hK hP i5 e_T rfl 5 (by decide) k35 f_T_next dX5_takesNumber_62 ?_
      refine lv_iload_n hx hb dX5_takesNumber_65 rfl (lv_at hl 3 rfl) ?_
      refine lv_icmp_le (tgt := 83) hx hb dX5_takesNumber_66 (by decide) (fun c_3 => ?_) (fun c_3 => ?_)
      · have hF := hF.1 c_3
        refine lv_aload_n hx hb dX5_takesNumber_83 rfl (lv_at hl 0 rfl) ?_
        refine lv_iload_n hx hb dX5_takesNumber_84 rfl (lv_at hl 3 rfl) ?_
        refine pF S hK had hP hS i5 tyX5_ok nmX5 e_T rfl 5 (by decide) k35 rfl rfl rfl (Nat.lt_of_lt_of_eq (by decide) len_T.symm) s_T_next dX5_takesNumber_85 (fun M_4 H locs eM_4 hP hS => ?_)
        have hF := hF M_4 eM_4
        refine lv_iconst (v := 0) hx hb dX5_takesNumber_88 (by decide) ?_
        exact retZ S hr hlocks hP hS rfl hF dX5_takesNumber_89
      · have hF := hF.2 c_3
        refine lv_aload_n hx hb dX5_takesNumber_69 rfl (lv_at hl 0 rfl) ?_
        refine gF S hK hP i5 e_T rfl 6 (by decide) k52 f_T_number dX5_takesNumber_70 ?_
        refine lv_iload_n hx hb dX5_takesNumber_73 rfl (lv_at hl 1 rfl) ?_
        refine lv_iload_n hx hb dX5_takesNumber_74 rfl (lv_at hl 2 rfl) ?_
        refine goZ (rSN (rest := []) S hK hP (ctX6_isWithin l D cI cJ ad had (gi m13 6) a1 a2 _ _ hF) ⟨va_cnB 3 hts ggX5_takesNumber_X6_isWithin rfl rfl rfl (hK.2 _ nw_RX5_76) (hts (.initialized RX6) (by decide +kernel)) hdS_X6_isWithin ⟨Nat.le_of_ble_eq_true rfl, Nat.le_of_ble_eq_true rfl⟩, hts (.static yX6_isWithin) (by decide +kernel), trivial⟩ rfl hl.1 rfl (Nat.le_of_ble_eq_true rfl) dX5_takesNumber_75 ⟨Nat.zero_le _, Nat.zero_le _⟩) hS (fun _ h => h) (fun r_5 M_5 H locs hP hS hz_r_5 hF => ?_)
        refine lv_if_eq (tgt := 83) hx hb dX5_takesNumber_78 (by decide) (fun c_6 => ?_) (fun c_6 => ?_)
        · have hF := hF.1 c_6
          refine lv_aload_n hx hb dX5_takesNumber_83 rfl (lv_at hl 0 rfl) ?_
          refine lv_iload_n hx hb dX5_takesNumber_84 rfl (lv_at hl 3 rfl) ?_
          refine pF S hK had hP hS i5 tyX5_ok nmX5 e_T rfl 5 (by decide) k35 rfl rfl rfl (Nat.lt_of_lt_of_eq (by decide) len_T.symm) s_T_next dX5_takesNumber_85 (fun M_7 H locs eM_7 hP hS => ?_)
          have hF := hF M_7 eM_7
          refine lv_iconst (v := 0) hx hb dX5_takesNumber_88 (by decide) ?_
          exact retZ S hr hlocks hP hS rfl hF dX5_takesNumber_89
        · have hF := hF.2 c_6
          refine lv_iconst (v := 1) hx hb dX5_takesNumber_81 (by decide) ?_
          exact retZ S hr hlocks hP hS rfl hF dX5_takesNumber_82
    · have hF := hF.2 c_2
      refine lv_aload_n hx hb dX5_takesNumber_19 rfl (lv_at hl 0 rfl) ?_
      refine goZ (rV (rest := []) S hK hP (ctX5_isDigitNext l D cI cJ ad had  _ _ hF) (cwV 0 hts gX5_takesNumber_X5_isDigitNext rfl rfl rfl hdV_X5_isDigitNext ⟨Nat.le_of_ble_eq_true rfl, Nat.le_of_ble_eq_true rfl⟩) e_T rfl rfl hl.1 rfl (Nat.le_of_ble_eq_true rfl) dX5_takesNumber_20 ⟨Nat.zero_le _, Nat.zero_le _⟩) hS (fun _ h => h) (fun r_8 M_8 H locs hP hS hz_r_8 hF => ?_)
      refine lv_if_eq (tgt := 61) hx hb dX5_takesNumber_23 (by decide) (fun c_9 => ?_) (fun c_9 => ?_)
      · have hF := hF.1 c_9
        refine lv_aload_n hx hb dX5_takesNumber_61 rfl (lv_at hl 0 rfl) ?_
        refine gF S hK hP i5 e_T rfl 5 (by decide) k35 f_T_next dX5_takesNumber_62 ?_
        refine lv_iload_n hx hb dX5_takesNumber_65 rfl (lv_at hl 3 rfl) ?_
        refine lv_icmp_le (tgt := 83) hx hb dX5_takesNumber_66 (by decide) (fun c_10 => ?_) (fun c_10 => ?_)
        · have hF := hF.1 c_10
          refine lv_aload_n hx hb dX5_takesNumber_83 rfl (lv_at hl 0 rfl) ?_
          refine lv_iload_n hx hb dX5_takesNumber_84 rfl (lv_at hl 3 rfl) ?_
          refine pF S hK had hP hS i5 tyX5_ok nmX5 e_T rfl 5 (by decide) k35 rfl rfl rfl (Nat.lt_of_lt_of_eq (by decide) len_T.symm) s_T_next dX5_takesNumber_85 (fun M_11 H locs eM_11 hP hS => ?_)
          have hF := hF M_11 eM_11
          refine lv_iconst (v := 0) hx hb dX5_takesNumber_88 (by decide) ?_
          exact retZ S hr hlocks hP hS rfl hF dX5_takesNumber_89
        · have hF := hF.2 c_10
          refine lv_aload_n hx hb dX5_takesNumber_69 rfl (lv_at hl 0 rfl) ?_
          refine gF S hK hP i5 e_T rfl 6 (by decide) k52 f_T_number dX5_takesNumber_70 ?_
          refine lv_iload_n hx hb dX5_takesNumber_73 rfl (lv_at hl 1 rfl) ?_
          refine lv_iload_n hx hb dX5_takesNumber_74 rfl (lv_at hl 2 rfl) ?_
          refine goZ (rSN (rest := []) S hK hP (ctX6_isWithin l D cI cJ ad had (gi M_8 6) a1 a2 _ _ hF) ⟨va_cnB 3 hts ggX5_takesNumber_X6_isWithin rfl rfl rfl (hK.2 _ nw_RX5_76) (hts (.initialized RX6) (by decide +kernel)) hdS_X6_isWithin ⟨Nat.le_of_ble_eq_true rfl, Nat.le_of_ble_eq_true rfl⟩, hts (.static yX6_isWithin) (by decide +kernel), trivial⟩ rfl hl.1 rfl (Nat.le_of_ble_eq_true rfl) dX5_takesNumber_75 ⟨Nat.zero_le _, Nat.zero_le _⟩) hS (fun _ h => h) (fun r_12 M_12 H locs hP hS hz_r_12 hF => ?_)
          refine lv_if_eq (tgt := 83) hx hb dX5_takesNumber_78 (by decide) (fun c_13 => ?_) (fun c_13 => ?_)
          · have hF := hF.1 c_13
            refine lv_aload_n hx hb dX5_takesNumber_83 rfl (lv_at hl 0 rfl) ?_
            refine lv_iload_n hx hb dX5_takesNumber_84 rfl (lv_at hl 3 rfl) ?_
            refine pF S hK had hP hS i5 tyX5_ok nmX5 e_T rfl 5 (by decide) k35 rfl rfl rfl (Nat.lt_of_lt_of_eq (by decide) len_T.symm) s_T_next dX5_takesNumber_85 (fun M_14 H locs eM_14 hP hS => ?_)
            have hF := hF M_14 eM_14
            refine lv_iconst (v := 0) hx hb dX5_takesNumber_88 (by decide) ?_
            exact retZ S hr hlocks hP hS rfl hF dX5_takesNumber_89
          · have hF := hF.2 c_13
            refine lv_iconst (v := 1) hx hb dX5_takesNumber_81 (by decide) ?_
            exact retZ S hr hlocks hP hS rfl hF dX5_takesNumber_82
      · have hF := hF.2 c_9
        refine lv_aload_n hx hb dX5_takesNumber_26 rfl (lv_at hl 0 rfl) ?_
        refine lv_bipush (v := 10) hx hb dX5_takesNumber_27 (by decide) ?_
        refine lv_aload_n hx hb dX5_takesNumber_29 rfl (lv_at hl 0 rfl) ?_
        refine gF S hK hP i5 e_T rfl 6 (by decide) k52 f_T_number dX5_takesNumber_30 ?_
        refine lv_imul hx hb dX5_takesNumber_33 ?_
        refine lv_aload_n hx hb dX5_takesNumber_34 rfl (lv_at hl 0 rfl) ?_
        refine goI (rV (rest := [.int ((10 : Int32) * (gi M_8 6)), .ref (ad 2)]) S hK hP (ctX5_codeAtNext l D cI cJ ad had  _ _ hF) (cwV 0 hts gX5_takesNumber_X5_codeAtNext rfl rfl rfl hdV_X5_codeAtNext ⟨Nat.le_of_ble_eq_true rfl, Nat.le_of_ble_eq_true rfl⟩) e_T rfl rfl hl.1 rfl (Nat.le_of_ble_eq_true rfl) dX5_takesNumber_35 ⟨Nat.zero_le _, Nat.zero_le _⟩) hS (fun _ h => h) (fun r_15 M_15 H locs hP hS hF => ?_)
        refine lv_iadd hx hb dX5_takesNumber_38 ?_
        refine lv_bipush (v := 48) hx hb dX5_takesNumber_39 (by decide) ?_
        refine lv_isub hx hb dX5_takesNumber_41 ?_
        refine pF S hK had hP hS i5 tyX5_ok nmX5 e_T rfl 6 (by decide) k52 rfl rfl rfl (Nat.lt_of_lt_of_eq (by decide) len_T.symm) s_T_number dX5_takesNumber_42 (fun M_16 H locs eM_16 hP hS => ?_)
        have hF := hF M_16 eM_16
        refine lv_aload_n hx hb dX5_takesNumber_45 rfl (lv_at hl 0 rfl) ?_
        refine lv_dup hx hb dX5_takesNumber_46 rfl ?_
        refine gF S hK hP i5 e_T rfl 5 (by decide) k35 f_T_next dX5_takesNumber_47 ?_
        refine lv_iconst (v := 1) hx hb dX5_takesNumber_50 (by decide) ?_
        refine lv_iadd hx hb dX5_takesNumber_51 ?_
        refine pF S hK had hP hS i5 tyX5_ok nmX5 e_T rfl 5 (by decide) k35 rfl rfl rfl (Nat.lt_of_lt_of_eq (by decide) len_T.symm) s_T_next dX5_takesNumber_52 (fun M_17 H locs eM_17 hP hS => ?_)
        have hF := hF M_17 eM_17
        refine lv_iinc (v := (x4_13 + 1)) (lv' := [(4, .int (x4_13 + 1)), (0, .ref (ad 2)), (1, .int a1), (2, .int a2), (3, .int y3_13)]) hx hb dX5_takesNumber_55 hl (k := 4) rfl rfl (by decide) rfl (fun ls hl => ?_)
        refine lv_goto (tgt := 13) hx hb dX5_takesNumber_58 (by decide) ?_
        exact hJ_13 _ _ hF _ _ _ hP hS (lv_sub hl [1, 2, 3, 4, 0] rfl)
  exact key_13 _ _ _ hF _ _ _ hP hS (lv_sub hl [2, 3, 4, 1, 0] rfl)
def wX6_set (k0_ : Nat) (a1 : Int32) (a2 : Int32) (Q : Mm → Prop) (M : Mm) : Prop := ((a1 < 0 → (Q M)) ∧ (¬ a1 < 0 → (((Int32.ofNat (lenA k0_)) ≤ a1 → (Q M)) ∧ (¬ (Int32.ofNat (lenA k0_)) ≤ a1 → (vp_in a1 (lenA k0_) ∧ (∀ M_3 : Mm, M_3 = (sa M k0_ (upd (ga M k0_) a1.toNatClampNeg a2)) → (Q M_3)))))))
set_option maxHeartbeats 4000000 in
set_option maxRecDepth 100000 in
theorem ctX6_set (l : Launch) (D : va_G) (cI cJ : ClassId) (ad : Nat → Nat) (had : inj54 ad) (k0_ : Nat) (hk0_ : isA k0_ = true) (a1 : Int32) (a2 : Int32) (Q : Mm → Prop) (M : Mm) (hF : wX6_set k0_ a1 a2 Q M) : Met l yX6_set wsX6_set ({ frames := 0, cells := 0, slots := 0, locals := 0 } : Room) (PcW D cI cJ ad M [.ref (ad k0_), .int a1, .int a2]) (QvW D cI cJ ad Q) 0 0 (Fr ad) := by
  refine entW (y := yX6_set) (ret := none) (maxL := 3) (plainFor_of_name (by decide)) rfl (Nat.le_of_ble_eq_true rfl) ?_
  intro p e s m args below meth c ls S hK hr hlocks hP hS hl
  have hx := S.1
  have hb := S.2.1
  have hown := S.2.2.2.1
  have hts := S.2.2.2.2
  have hl : lv_has ls 3 [(0, .ref (ad k0_)), (1, .int a1), (2, .int a2)] := hl
  unfold wX6_set at hF
  refine lv_iload_n hx hb dX6_set_0 rfl (lv_at hl 1 rfl) ?_
  refine lv_if_lt (tgt := 14) hx hb dX6_set_1 (by decide) (fun c_1 => ?_) (fun c_1 => ?_)
  · have hF := hF.1 c_1
    exact retV S hr hlocks hP hS hF dX6_set_14
  · have hF := hF.2 c_1
    refine lv_iload_n hx hb dX6_set_4 rfl (lv_at hl 1 rfl) ?_
    refine lv_aload_n hx hb dX6_set_5 rfl (lv_at hl 0 rfl) ?_
    refine alA S hK hP hk0_ dX6_set_6 ?_
    refine lv_icmp_ge (tgt := 14) hx hb dX6_set_7 (by decide) (fun c_2 => ?_) (fun c_2 => ?_)
    · have hF := hF.1 c_2
      exact retV S hr hlocks hP hS hF dX6_set_14
    · have hF := hF.2 c_2
      refine lv_aload_n hx hb dX6_set_10 rfl (lv_at hl 0 rfl) ?_
      refine lv_iload_n hx hb dX6_set_11 rfl (lv_at hl 1 rfl) ?_
      refine lv_iload_n hx hb dX6_set_12 rfl (lv_at hl 2 rfl) ?_
      obtain ⟨hb_4, hF⟩ := hF
      refine stA S hK had hP hS (k := k0_) hk0_ hb_4 dX6_set_13 (fun M_3 H locs eM_3 hP hS => ?_)
      have hF := hF M_3 eM_3
      exact retV S hr hlocks hP hS hF dX6_set_14
def wX5_takesSort (a1 : Int32) (Q : Int32 → Mm → Prop) (M : Mm) : Prop := (wX5_takes (115 : Int32) (fun r_1 M_1 => ((r_1 = 0 → (Q (0 : Int32) M_1)) ∧ (¬ r_1 = 0 → (wX5_takesNumber (1 : Int32) (gi M_1 10) (fun r_3 M_3 => ((r_3 = 0 → (Q (0 : Int32) M_3)) ∧ (¬ r_3 = 0 → (∀ M_5 : Mm, M_5 = (si M_3 10 ((gi M_3 10) - (gi M_3 6))) → (wX6_set 11 a1 (gi M_5 6) (fun M_6 => (wX5_takes (118 : Int32) (fun r_7 M_7 => ((r_7 = 0 → (Q (0 : Int32) M_7)) ∧ (¬ r_7 = 0 → (wX5_takesNumber (0 : Int32) (999 : Int32) (fun r_9 M_9 => ((r_9 = 0 → (Q (0 : Int32) M_9)) ∧ (¬ r_9 = 0 → (wX6_set 12 a1 (gi M_9 6) (fun M_11 => (∀ M_12 : Mm, M_12 = (si M_11 9 (a1 + (1 : Int32))) → (Q (1 : Int32) M_12))) M_9)))) M_7)))) M_6)) M_5))))) M_1)))) M)
set_option maxHeartbeats 4000000 in
set_option maxRecDepth 100000 in
theorem ctX5_takesSort (l : Launch) (D : va_G) (cI cJ : ClassId) (ad : Nat → Nat) (had : inj54 ad) (a1 : Int32) (Q : Int32 → Mm → Prop) (M : Mm) (hF : wX5_takesSort a1 Q M) : Met l yX5_takesSort wsX5_takesSort ({ frames := 4, cells := 0, slots := 0, locals := 85 } : Room) (PcW D cI cJ ad M [.ref (ad 2), .int a1]) (QzW D cI cJ ad Q) 0 0 (Fr ad) := by
  refine entW (y := yX5_takesSort) (ret := some .boolean) (maxL := 2) (plainFor_of_name (by decide)) rfl (Nat.le_of_ble_eq_true rfl) ?_
  intro p e s m args below meth c ls S hK hr hlocks hP hS hl
  have hx := S.1
  have hb := S.2.1
  have hown := S.2.2.2.1
  have hts := S.2.2.2.2
  have i5 : ∀ w ∈ wsX50, w ∈ wsX5_takesSort := by decide +kernel
  have k41 := hts (.fieldLink RX5 41 "RopeLine$Text" "left" "I") (by decide +kernel)
  have k52 := hts (.fieldLink RX5 52 "RopeLine$Text" "number" "I") (by decide +kernel)
  have k9 := hts (.fieldLink RX5 9 "RopeLine$Text" "twelfths" "[I") (by decide +kernel)
  have k15 := hts (.fieldLink RX5 15 "RopeLine$Text" "worths" "[I") (by decide +kernel)
  have k38 := hts (.fieldLink RX5 38 "RopeLine$Text" "sorts" "I") (by decide +kernel)
  have hl : lv_has ls 2 [(0, .ref (ad 2)), (1, .int a1)] := hl
  unfold wX5_takesSort at hF
  refine lv_aload_n hx hb dX5_takesSort_0 rfl (lv_at hl 0 rfl) ?_
  refine lv_bipush (v := 115) hx hb dX5_takesSort_1 (by decide) ?_
  refine goZ (rV (rest := []) S hK hP (ctX5_takes l D cI cJ ad had (115 : Int32) _ _ hF) (cwV 1 hts gX5_takesSort_X5_takes rfl rfl rfl hdV_X5_takes ⟨Nat.le_of_ble_eq_true rfl, Nat.le_of_ble_eq_true rfl⟩) e_T rfl rfl hl.1 rfl (Nat.le_of_ble_eq_true rfl) dX5_takesSort_3 ⟨Nat.zero_le _, Nat.zero_le _⟩) hS (fun _ h => h) (fun r_1 M_1 H locs hP hS hz_r_1 hF => ?_)
  refine lv_if_eq (tgt := 21) hx hb dX5_takesSort_6 (by decide) (fun c_2 => ?_) (fun c_2 => ?_)
  · have hF := hF.1 c_2
    refine lv_iconst (v := 0) hx hb dX5_takesSort_21 (by decide) ?_
    exact retZ S hr hlocks hP hS rfl hF dX5_takesSort_22
  · have hF := hF.2 c_2
    refine lv_aload_n hx hb dX5_takesSort_9 rfl (lv_at hl 0 rfl) ?_
    refine lv_iconst (v := 1) hx hb dX5_takesSort_10 (by decide) ?_
    refine lv_aload_n hx hb dX5_takesSort_11 rfl (lv_at hl 0 rfl) ?_
    refine gF S hK hP i5 e_T rfl 10 (by decide) k41 f_T_left dX5_takesSort_12 ?_
    refine goZ (rV (rest := []) S hK hP (ctX5_takesNumber l D cI cJ ad had (1 : Int32) (gi M_1 10) _ _ hF) (cwV 2 hts gX5_takesSort_X5_takesNumber rfl rfl rfl hdV_X5_takesNumber ⟨Nat.le_of_ble_eq_true rfl, Nat.le_of_ble_eq_true rfl⟩) e_T rfl rfl hl.1 rfl (Nat.le_of_ble_eq_true rfl) dX5_takesSort_15 ⟨Nat.zero_le _, Nat.zero_le _⟩) hS (fun _ h => h) (fun r_3 M_3 H locs hP hS hz_r_3 hF => ?_)
    refine lv_if_ne (tgt := 23) hx hb dX5_takesSort_18 (by decide) (fun c_4 => ?_) (fun c_4 => ?_)
    · have hF := hF.2 c_4
      refine lv_aload_n hx hb dX5_takesSort_23 rfl (lv_at hl 0 rfl) ?_
      refine lv_dup hx hb dX5_takesSort_24 rfl ?_
      refine gF S hK hP i5 e_T rfl 10 (by decide) k41 f_T_left dX5_takesSort_25 ?_
      refine lv_aload_n hx hb dX5_takesSort_28 rfl (lv_at hl 0 rfl) ?_
      refine gF S hK hP i5 e_T rfl 6 (by decide) k52 f_T_number dX5_takesSort_29 ?_
      refine lv_isub hx hb dX5_takesSort_32 ?_
      refine pF S hK had hP hS i5 tyX5_ok nmX5 e_T rfl 10 (by decide) k41 rfl rfl rfl (Nat.lt_of_lt_of_eq (by decide) len_T.symm) s_T_left dX5_takesSort_33 (fun M_5 H locs eM_5 hP hS => ?_)
      have hF := hF M_5 eM_5
      refine lv_aload_n hx hb dX5_takesSort_36 rfl (lv_at hl 0 rfl) ?_
      refine gF S hK hP i5 e_T rfl 0 (by decide) k9 f_T_twelfths dX5_takesSort_37 ?_
      refine lv_iload_n hx hb dX5_takesSort_40 rfl (lv_at hl 1 rfl) ?_
      refine lv_aload_n hx hb dX5_takesSort_41 rfl (lv_at hl 0 rfl) ?_
      refine gF S hK hP i5 e_T rfl 6 (by decide) k52 f_T_number dX5_takesSort_42 ?_
      refine goV (rSN (rest := []) S hK hP (ctX6_set l D cI cJ ad had 11 rfl a1 (gi M_5 6) _ _ hF) ⟨va_cnB 3 hts ggX5_takesSort_X6_set rfl rfl rfl (hK.2 _ nw_RX5_64) (hts (.initialized RX6) (by decide +kernel)) hdS_X6_set ⟨Nat.le_of_ble_eq_true rfl, Nat.le_of_ble_eq_true rfl⟩, hts (.static yX6_set) (by decide +kernel), trivial⟩ rfl hl.1 rfl (Nat.le_of_ble_eq_true rfl) dX5_takesSort_45 ⟨Nat.zero_le _, Nat.zero_le _⟩) hS (fun _ h => h) (fun M_6 H locs hP hS hF => ?_)
      refine lv_aload_n hx hb dX5_takesSort_48 rfl (lv_at hl 0 rfl) ?_
      refine lv_bipush (v := 118) hx hb dX5_takesSort_49 (by decide) ?_
      refine goZ (rV (rest := []) S hK hP (ctX5_takes l D cI cJ ad had (118 : Int32) _ _ hF) (cwV 1 hts gX5_takesSort_X5_takes rfl rfl rfl hdV_X5_takes ⟨Nat.le_of_ble_eq_true rfl, Nat.le_of_ble_eq_true rfl⟩) e_T rfl rfl hl.1 rfl (Nat.le_of_ble_eq_true rfl) dX5_takesSort_51 ⟨Nat.zero_le _, Nat.zero_le _⟩) hS (fun _ h => h) (fun r_7 M_7 H locs hP hS hz_r_7 hF => ?_)
      refine lv_if_eq (tgt := 68) hx hb dX5_takesSort_54 (by decide) (fun c_8 => ?_) (fun c_8 => ?_)
      · have hF := hF.1 c_8
        refine lv_iconst (v := 0) hx hb dX5_takesSort_68 (by decide) ?_
        exact retZ S hr hlocks hP hS rfl hF dX5_takesSort_69
      · have hF := hF.2 c_8
        refine lv_aload_n hx hb dX5_takesSort_57 rfl (lv_at hl 0 rfl) ?_
        refine lv_iconst (v := 0) hx hb dX5_takesSort_58 (by decide) ?_
        refine lv_sipush (v := 999) hx hb dX5_takesSort_59 (by decide) ?_
        refine goZ (rV (rest := []) S hK hP (ctX5_takesNumber l D cI cJ ad had (0 : Int32) (999 : Int32) _ _ hF) (cwV 2 hts gX5_takesSort_X5_takesNumber rfl rfl rfl hdV_X5_takesNumber ⟨Nat.le_of_ble_eq_true rfl, Nat.le_of_ble_eq_true rfl⟩) e_T rfl rfl hl.1 rfl (Nat.le_of_ble_eq_true rfl) dX5_takesSort_62 ⟨Nat.zero_le _, Nat.zero_le _⟩) hS (fun _ h => h) (fun r_9 M_9 H locs hP hS hz_r_9 hF => ?_)
        refine lv_if_ne (tgt := 70) hx hb dX5_takesSort_65 (by decide) (fun c_10 => ?_) (fun c_10 => ?_)
        · have hF := hF.2 c_10
          refine lv_aload_n hx hb dX5_takesSort_70 rfl (lv_at hl 0 rfl) ?_
          refine gF S hK hP i5 e_T rfl 1 (by decide) k15 f_T_worths dX5_takesSort_71 ?_
          refine lv_iload_n hx hb dX5_takesSort_74 rfl (lv_at hl 1 rfl) ?_
          refine lv_aload_n hx hb dX5_takesSort_75 rfl (lv_at hl 0 rfl) ?_
          refine gF S hK hP i5 e_T rfl 6 (by decide) k52 f_T_number dX5_takesSort_76 ?_
          refine goV (rSN (rest := []) S hK hP (ctX6_set l D cI cJ ad had 12 rfl a1 (gi M_9 6) _ _ hF) ⟨va_cnB 3 hts ggX5_takesSort_X6_set rfl rfl rfl (hK.2 _ nw_RX5_64) (hts (.initialized RX6) (by decide +kernel)) hdS_X6_set ⟨Nat.le_of_ble_eq_true rfl, Nat.le_of_ble_eq_true rfl⟩, hts (.static yX6_set) (by decide +kernel), trivial⟩ rfl hl.1 rfl (Nat.le_of_ble_eq_true rfl) dX5_takesSort_79 ⟨Nat.zero_le _, Nat.zero_le _⟩) hS (fun _ h => h) (fun M_11 H locs hP hS hF => ?_)
          refine lv_aload_n hx hb dX5_takesSort_82 rfl (lv_at hl 0 rfl) ?_
          refine lv_iload_n hx hb dX5_takesSort_83 rfl (lv_at hl 1 rfl) ?_
          refine lv_iconst (v := 1) hx hb dX5_takesSort_84 (by decide) ?_
          refine lv_iadd hx hb dX5_takesSort_85 ?_
          refine pF S hK had hP hS i5 tyX5_ok nmX5 e_T rfl 9 (by decide) k38 rfl rfl rfl (Nat.lt_of_lt_of_eq (by decide) len_T.symm) s_T_sorts dX5_takesSort_86 (fun M_12 H locs eM_12 hP hS => ?_)
          have hF := hF M_12 eM_12
          refine lv_iconst (v := 1) hx hb dX5_takesSort_89 (by decide) ?_
          exact retZ S hr hlocks hP hS rfl hF dX5_takesSort_90
        · have hF := hF.1 c_10
          refine lv_iconst (v := 0) hx hb dX5_takesSort_68 (by decide) ?_
          exact retZ S hr hlocks hP hS rfl hF dX5_takesSort_69
    · have hF := hF.1 c_4
      refine lv_iconst (v := 0) hx hb dX5_takesSort_21 (by decide) ?_
      exact retZ S hr hlocks hP hS rfl hF dX5_takesSort_22
def bX5_isTaken_104 (Q : Int32 → Mm → Prop) (J_104 : Int32 → Mm → Prop) (x4_104 : Int32) (m104 : Mm) : Prop := (((3 : Int32) ≤ x4_104 → (((gi m104 5) = (gi m104 4) → (Q (1 : Int32) m104)) ∧ (¬ (gi m104 5) = (gi m104 4) → (Q (0 : Int32) m104)))) ∧ (¬ (3 : Int32) ≤ x4_104 → (((gi m104 4) ≤ (gi m104 5) → (((gi m104 5) = (gi m104 4) → (Q (1 : Int32) m104)) ∧ (¬ (gi m104 5) = (gi m104 4) → (Q (0 : Int32) m104)))) ∧ (¬ (gi m104 4) ≤ (gi m104 5) → (wX5_takes (59 : Int32) (fun r_23 M_23 => ((r_23 = 0 → (Q (0 : Int32) M_23)) ∧ (¬ r_23 = 0 → (wX5_takesSort x4_104 (fun r_25 M_25 => ((r_25 = 0 → (Q (0 : Int32) M_25)) ∧ (¬ r_25 = 0 → (J_104 (x4_104 + 1) M_25)))) M_23)))) m104)))))
def lX5_isTaken_104 (Q : Int32 → Mm → Prop) (x4_104 : Int32) (m104 : Mm) : Prop := ∀ I : Int32 → Mm → Prop, (∀ J : Int32 → Mm → Prop, (∀ (x4_104 : Int32) (m : Mm), J x4_104 m → I x4_104 m) → ∀ (x4_104 : Int32) (m : Mm), bX5_isTaken_104 Q J x4_104 m → I x4_104 m) → I x4_104 m104
theorem lX5_isTaken_104_mk (Q : Int32 → Mm → Prop) (x4_104 : Int32) (m104 : Mm) (h : bX5_isTaken_104 Q (lX5_isTaken_104 Q) x4_104 m104) : lX5_isTaken_104 Q x4_104 m104 := fun I hI => hI (lX5_isTaken_104 Q) (fun _ _ q => q I hI) _ _ h
def wX5_isTaken (a1 : Int32) (a2 : Int32) (a3 : Int32) (Q : Int32 → Mm → Prop) (M : Mm) : Prop := (wX4_indexOf a1 a2 (fun r_1 M_1 => (∀ M_2 : Mm, M_2 = (si M_1 3 r_1) → (∀ M_3 : Mm, M_3 = (si M_2 4 a3) → (∀ M_4 : Mm, M_4 = (si M_3 5 (0 : Int32)) → (∀ M_5 : Mm, M_5 = (si M_4 9 (0 : Int32)) → (∀ M_6 : Mm, M_6 = (si M_5 10 (11 : Int32)) → (wX5_takes (109 : Int32) (fun r_7 M_7 => ((r_7 = 0 → (Q (0 : Int32) M_7)) ∧ (¬ r_7 = 0 → (wX5_takesNumber (1 : Int32) (11 : Int32) (fun r_9 M_9 => ((r_9 = 0 → (Q (0 : Int32) M_9)) ∧ (¬ r_9 = 0 → (∀ M_11 : Mm, M_11 = (si M_9 7 (gi M_9 6)) → (wX5_takes (59 : Int32) (fun r_12 M_12 => ((r_12 = 0 → (Q (0 : Int32) M_12)) ∧ (¬ r_12 = 0 → (wX5_takes (99 : Int32) (fun r_14 M_14 => ((r_14 = 0 → (Q (0 : Int32) M_14)) ∧ (¬ r_14 = 0 → (wX5_takesNumber (1 : Int32) (9 : Int32) (fun r_16 M_16 => ((r_16 = 0 → (Q (0 : Int32) M_16)) ∧ (¬ r_16 = 0 → (∀ M_18 : Mm, M_18 = (si M_16 8 (gi M_16 6)) → (lX5_isTaken_104 Q (0 : Int32) M_18))))) M_14)))) M_12)))) M_11))))) M_7)))) M_6))))))) M)
set_option maxHeartbeats 4000000 in
set_option maxRecDepth 100000 in
theorem ctX5_isTaken (l : Launch) (D : va_G) (cI cJ : ClassId) (ad : Nat → Nat) (had : inj54 ad) (a1 : Int32) (a2 : Int32) (a3 : Int32) (Q : Int32 → Mm → Prop) (M : Mm) (hF : wX5_isTaken a1 a2 a3 Q M) : Met l yX5_isTaken wsX5_isTaken ({ frames := 5, cells := 0, slots := 0, locals := 106 } : Room) (PcW D cI cJ ad M [.ref (ad 2), .int a1, .int a2, .int a3]) (QzW D cI cJ ad Q) 0 0 (Fr ad) := by
  refine entW (y := yX5_isTaken) (ret := some .boolean) (maxL := 5) (plainFor_of_name (by decide)) rfl (Nat.le_of_ble_eq_true rfl) ?_
  intro p e s m args below meth c ls S hK hr hlocks hP hS hl
  have hx := S.1
  have hb := S.2.1
  have hown := S.2.2.2.1
  have hts := S.2.2.2.2
  have i5 : ∀ w ∈ wsX50, w ∈ wsX5_isTaken := by decide +kernel
  have k18 := hts (.fieldLink RX5 18 "RopeLine$Text" "sheets" "LRopeLine$Sheets;") (by decide +kernel)
  have k28 := hts (.fieldLink RX5 28 "RopeLine$Text" "start" "I") (by decide +kernel)
  have k32 := hts (.fieldLink RX5 32 "RopeLine$Text" "codes" "I") (by decide +kernel)
  have k35 := hts (.fieldLink RX5 35 "RopeLine$Text" "next" "I") (by decide +kernel)
  have k38 := hts (.fieldLink RX5 38 "RopeLine$Text" "sorts" "I") (by decide +kernel)
  have k41 := hts (.fieldLink RX5 41 "RopeLine$Text" "left" "I") (by decide +kernel)
  have k52 := hts (.fieldLink RX5 52 "RopeLine$Text" "number" "I") (by decide +kernel)
  have k55 := hts (.fieldLink RX5 55 "RopeLine$Text" "served" "I") (by decide +kernel)
  have k58 := hts (.fieldLink RX5 58 "RopeLine$Text" "cost" "I") (by decide +kernel)
  have hl : lv_has ls 5 [(0, .ref (ad 2)), (1, .int a1), (2, .int a2), (3, .int a3)] := hl
  unfold wX5_isTaken at hF
  refine lv_aload_n hx hb dX5_isTaken_0 rfl (lv_at hl 0 rfl) ?_
  refine lv_aload_n hx hb dX5_isTaken_1 rfl (lv_at hl 0 rfl) ?_
  refine gF S hK hP i5 e_T rfl 2 (by decide) k18 f_T_sheets dX5_isTaken_2 ?_
  refine lv_iload_n hx hb dX5_isTaken_5 rfl (lv_at hl 1 rfl) ?_
  refine lv_iload_n hx hb dX5_isTaken_6 rfl (lv_at hl 2 rfl) ?_
  refine goI (rV (rest := [.ref (ad 2)]) S hK hP (ctX4_indexOf l D cI cJ ad had a1 a2 _ _ hF) (cwV 2 hts gX5_isTaken_X4_indexOf rfl rfl rfl hdV_X4_indexOf ⟨Nat.le_of_ble_eq_true rfl, Nat.le_of_ble_eq_true rfl⟩) e_S rfl rfl hl.1 rfl (Nat.le_of_ble_eq_true rfl) dX5_isTaken_7 ⟨Nat.zero_le _, Nat.zero_le _⟩) hS (fun _ h => h) (fun r_1 M_1 H locs hP hS hF => ?_)
  refine pF S hK had hP hS i5 tyX5_ok nmX5 e_T rfl 3 (by decide) k28 rfl rfl rfl (Nat.lt_of_lt_of_eq (by decide) len_T.symm) s_T_start dX5_isTaken_10 (fun M_2 H locs eM_2 hP hS => ?_)
  have hF := hF M_2 eM_2
  refine lv_aload_n hx hb dX5_isTaken_13 rfl (lv_at hl 0 rfl) ?_
  refine lv_iload_n hx hb dX5_isTaken_14 rfl (lv_at hl 3 rfl) ?_
  refine pF S hK had hP hS i5 tyX5_ok nmX5 e_T rfl 4 (by decide) k32 rfl rfl rfl (Nat.lt_of_lt_of_eq (by decide) len_T.symm) s_T_codes dX5_isTaken_15 (fun M_3 H locs eM_3 hP hS => ?_)
  have hF := hF M_3 eM_3
  refine lv_aload_n hx hb dX5_isTaken_18 rfl (lv_at hl 0 rfl) ?_
  refine lv_iconst (v := 0) hx hb dX5_isTaken_19 (by decide) ?_
  refine pF S hK had hP hS i5 tyX5_ok nmX5 e_T rfl 5 (by decide) k35 rfl rfl rfl (Nat.lt_of_lt_of_eq (by decide) len_T.symm) s_T_next dX5_isTaken_20 (fun M_4 H locs eM_4 hP hS => ?_)
  have hF := hF M_4 eM_4
  refine lv_aload_n hx hb dX5_isTaken_23 rfl (lv_at hl 0 rfl) ?_
  refine lv_iconst (v := 0) hx hb dX5_isTaken_24 (by decide) ?_
  refine pF S hK had hP hS i5 tyX5_ok nmX5 e_T rfl 9 (by decide) k38 rfl rfl rfl (Nat.lt_of_lt_of_eq (by decide) len_T.symm) s_T_sorts dX5_isTaken_25 (fun M_5 H locs eM_5 hP hS => ?_)
  have hF := hF M_5 eM_5
  refine lv_aload_n hx hb dX5_isTaken_28 rfl (lv_at hl 0 rfl) ?_
  refine lv_bipush (v := 11) hx hb dX5_isTaken_29 (by decide) ?_
  refine pF S hK had hP hS i5 tyX5_ok nmX5 e_T rfl 10 (by decide) k41 rfl rfl rfl (Nat.lt_of_lt_of_eq (by decide) len_T.symm) s_T_left dX5_isTaken_31 (fun M_6 H locs eM_6 hP hS => ?_)
  have hF := hF M_6 eM_6
  refine lv_aload_n hx hb dX5_isTaken_34 rfl (lv_at hl 0 rfl) ?_
  refine lv_bipush (v := 109) hx hb dX5_isTaken_35 (by decide) ?_
  refine goZ (rV (rest := []) S hK hP (ctX5_takes l D cI cJ ad had (109 : Int32) _ _ hF) (cwV 1 hts gX5_isTaken_X5_takes rfl rfl rfl hdV_X5_takes ⟨Nat.le_of_ble_eq_true rfl, Nat.le_of_ble_eq_true rfl⟩) e_T rfl rfl hl.1 rfl (Nat.le_of_ble_eq_true rfl) dX5_isTaken_37 ⟨Nat.zero_le _, Nat.zero_le _⟩) hS (fun _ h => h) (fun r_7 M_7 H locs hP hS hz_r_7 hF => ?_)
  refine lv_if_eq (tgt := 53) hx hb dX5_isTaken_40 (by decide) (fun c_8 => ?_) (fun c_8 => ?_)
  · have hF := hF.1 c_8
    refine lv_iconst (v := 0) hx hb dX5_isTaken_53 (by decide) ?_
    exact retZ S hr hlocks hP hS rfl hF dX5_isTaken_54
  · have hF := hF.2 c_8
    refine lv_aload_n hx hb dX5_isTaken_43 rfl (lv_at hl 0 rfl) ?_
    refine lv_iconst (v := 1) hx hb dX5_isTaken_44 (by decide) ?_
    refine lv_bipush (v := 11) hx hb dX5_isTaken_45 (by decide) ?_
    refine goZ (rV (rest := []) S hK hP (ctX5_takesNumber l D cI cJ ad had (1 : Int32) (11 : Int32) _ _ hF) (cwV 2 hts gX5_isTaken_X5_takesNumber rfl rfl rfl hdV_X5_takesNumber ⟨Nat.le_of_ble_eq_true rfl, Nat.le_of_ble_eq_true rfl⟩) e_T rfl rfl hl.1 rfl (Nat.le_of_ble_eq_true rfl) dX5_isTaken_47 ⟨Nat.zero_le _, Nat.zero_le _⟩) hS (fun _ h => h) (fun r_9 M_9 H locs hP hS hz_r_9 hF => ?_)
    refine lv_if_ne (tgt := 55) hx hb dX5_isTaken_50 (by decide) (fun c_10 => ?_) (fun c_10 => ?_)
    · have hF := hF.2 c_10
      refine lv_aload_n hx hb dX5_isTaken_55 rfl (lv_at hl 0 rfl) ?_
      refine lv_aload_n hx hb dX5_isTaken_56 rfl (lv_at hl 0 rfl) ?_
      refine gF S hK hP i5 e_T rfl 6 (by decide) k52 f_T_number dX5_isTaken_57 ?_
      refine pF S hK had hP hS i5 tyX5_ok nmX5 e_T rfl 7 (by decide) k55 rfl rfl rfl (Nat.lt_of_lt_of_eq (by decide) len_T.symm) s_T_served dX5_isTaken_60 (fun M_11 H locs eM_11 hP hS => ?_)
      have hF := hF M_11 eM_11
      refine lv_aload_n hx hb dX5_isTaken_63 rfl (lv_at hl 0 rfl) ?_
      refine lv_bipush (v := 59) hx hb dX5_isTaken_64 (by decide) ?_
      refine goZ (rV (rest := []) S hK hP (ctX5_takes l D cI cJ ad had (59 : Int32) _ _ hF) (cwV 1 hts gX5_isTaken_X5_takes rfl rfl rfl hdV_X5_takes ⟨Nat.le_of_ble_eq_true rfl, Nat.le_of_ble_eq_true rfl⟩) e_T rfl rfl hl.1 rfl (Nat.le_of_ble_eq_true rfl) dX5_isTaken_66 ⟨Nat.zero_le _, Nat.zero_le _⟩) hS (fun _ h => h) (fun r_12 M_12 H locs hP hS hz_r_12 hF => ?_)
      refine lv_if_eq (tgt := 91) hx hb dX5_isTaken_69 (by decide) (fun c_13 => ?_) (fun c_13 => ?_)
      · have hF := hF.1 c_13
        refine lv_iconst (v := 0) hx hb dX5_isTaken_91 (by decide) ?_
        exact retZ S hr hlocks hP hS rfl hF dX5_isTaken_92
      · have hF := hF.2 c_13
        refine lv_aload_n hx hb dX5_isTaken_72 rfl (lv_at hl 0 rfl) ?_
        refine lv_bipush (v := 99) hx hb dX5_isTaken_73 (by decide) ?_
        refine goZ (rV (rest := []) S hK hP (ctX5_takes l D cI cJ ad had (99 : Int32) _ _ hF) (cwV 1 hts gX5_isTaken_X5_takes rfl rfl rfl hdV_X5_takes ⟨Nat.le_of_ble_eq_true rfl, Nat.le_of_ble_eq_true rfl⟩) e_T rfl rfl hl.1 rfl (Nat.le_of_ble_eq_true rfl) dX5_isTaken_75 ⟨Nat.zero_le _, Nat.zero_le _⟩) hS (fun _ h => h) (fun r_14 M_14 H locs hP hS hz_r_14 hF => ?_)
        refine lv_if_eq (tgt := 91) hx hb dX5_isTaken_78 (by decide) (fun c_15 => ?_) (fun c_15 => ?_)
        · have hF := hF.1 c_15
          refine lv_iconst (v := 0) hx hb dX5_isTaken_91 (by decide) ?_
          exact retZ S hr hlocks hP hS rfl hF dX5_isTaken_92
        · have hF := hF.2 c_15
          refine lv_aload_n hx hb dX5_isTaken_81 rfl (lv_at hl 0 rfl) ?_
          refine lv_iconst (v := 1) hx hb dX5_isTaken_82 (by decide) ?_
          refine lv_bipush (v := 9) hx hb dX5_isTaken_83 (by decide) ?_
          refine goZ (rV (rest := []) S hK hP (ctX5_takesNumber l D cI cJ ad had (1 : Int32) (9 : Int32) _ _ hF) (cwV 2 hts gX5_isTaken_X5_takesNumber rfl rfl rfl hdV_X5_takesNumber ⟨Nat.le_of_ble_eq_true rfl, Nat.le_of_ble_eq_true rfl⟩) e_T rfl rfl hl.1 rfl (Nat.le_of_ble_eq_true rfl) dX5_isTaken_85 ⟨Nat.zero_le _, Nat.zero_le _⟩) hS (fun _ h => h) (fun r_16 M_16 H locs hP hS hz_r_16 hF => ?_)
          refine lv_if_ne (tgt := 93) hx hb dX5_isTaken_88 (by decide) (fun c_17 => ?_) (fun c_17 => ?_)
          · have hF := hF.2 c_17
            refine lv_aload_n hx hb dX5_isTaken_93 rfl (lv_at hl 0 rfl) ?_
            refine lv_aload_n hx hb dX5_isTaken_94 rfl (lv_at hl 0 rfl) ?_
            refine gF S hK hP i5 e_T rfl 6 (by decide) k52 f_T_number dX5_isTaken_95 ?_
            refine pF S hK had hP hS i5 tyX5_ok nmX5 e_T rfl 8 (by decide) k58 rfl rfl rfl (Nat.lt_of_lt_of_eq (by decide) len_T.symm) s_T_cost dX5_isTaken_98 (fun M_18 H locs eM_18 hP hS => ?_)
            have hF := hF M_18 eM_18
            refine lv_iconst (v := 0) hx hb dX5_isTaken_101 (by decide) ?_
            refine lv_istore (lv' := [(4, .int (0 : Int32)), (0, .ref (ad 2)), (1, .int a1), (2, .int a2), (3, .int a3)]) hx hb dX5_isTaken_102 hl (by decide) rfl (fun ls hl => ?_)
            have key_104 : ∀ (x4_104 : Int32) (m104 : Mm), (lX5_isTaken_104 Q x4_104 m104) → Wc p l e ({ frames := 5, cells := 0, slots := 0, locals := 106 } : Room) s m args below meth c D cI cJ ad (MQ below (QzW D cI cJ ad Q) args s 0 0 (Fr ad)) 5 104 [(0, .ref (ad 2)), (4, .int x4_104)] m104 := by
              intro x4_104 m104 hL
              refine hL (fun x4_104 m104 => Wc p l e ({ frames := 5, cells := 0, slots := 0, locals := 106 } : Room) s m args below meth c D cI cJ ad (MQ below (QzW D cI cJ ad Q) args s 0 0 (Fr ad)) 5 104 [(0, .ref (ad 2)), (4, .int x4_104)] m104) ?_
              intro J_104 hJ_104 x4_104 m104 hF H locs ls hP hS hl
              unfold bX5_isTaken_104 at hF
              refine lv_iload hx hb dX5_isTaken_104 (lv_at hl 1 rfl) ?_
              refine lv_iconst (v := 3) hx hb dX5_isTaken_106 (by decide) ?_
              refine lv_icmp_ge (tgt := 147) hx hb dX5_isTaken_107 (by decide) (fun c_19 => ?_) (fun c_19 => ?_)
              · have hF := hF.1 c_19
                refine lv_aload_n hx hb dX5_isTaken_147 rfl (lv_at hl 0 rfl) ?_
                refine gF S hK hP i5 e_T rfl 5 (by decide) k35 f_T_next dX5_isTaken_148 ?_
                refine lv_aload_n hx hb dX5_isTaken_151 rfl (lv_at hl 0 rfl) ?_
                refine gF S hK hP i5 e_T rfl 4 (by decide) k32 f_T_codes dX5_isTaken_152 ?_
                refine lv_icmp_ne (tgt := 162) hx hb dX5_isTaken_155 (by decide) (fun c_20 => ?_) (fun c_20 => ?_)
                · have hF := hF.2 c_20
                  refine lv_iconst (v := 0) hx hb dX5_isTaken_162 (by decide) ?_
                  exact retZ S hr hlocks hP hS rfl hF dX5_isTaken_163
                · have hF := hF.1 c_20
                  refine lv_iconst (v := 1) hx hb dX5_isTaken_158 (by decide) ?_
                  refine lv_goto (tgt := 163) hx hb dX5_isTaken_159 (by decide) ?_
                  exact retZ S hr hlocks hP hS rfl hF dX5_isTaken_163
              · have hF := hF.2 c_19
                refine lv_aload_n hx hb dX5_isTaken_110 rfl (lv_at hl 0 rfl) ?_
                refine gF S hK hP i5 e_T rfl 5 (by decide) k35 f_T_next dX5_isTaken_111 ?_
                refine lv_aload_n hx hb dX5_isTaken_114 rfl (lv_at hl 0 rfl) ?_
                refine gF S hK hP i5 e_T rfl 4 (by decide) k32 f_T_codes dX5_isTaken_115 ?_
                refine lv_icmp_ge (tgt := 147) hx hb dX5_isTaken_118 (by decide) (fun c_21 => ?_) (fun c_21 => ?_)
                · have hF := hF.1 c_21
                  refine lv_aload_n hx hb dX5_isTaken_147 rfl (lv_at hl 0 rfl) ?_
                  refine gF S hK hP i5 e_T rfl 5 (by decide) k35 f_T_next dX5_isTaken_148 ?_
                  refine lv_aload_n hx hb dX5_isTaken_151 rfl (lv_at hl 0 rfl) ?_
                  refine gF S hK hP i5 e_T rfl 4 (by decide) k32 f_T_codes dX5_isTaken_152 ?_
                  refine lv_icmp_ne (tgt := 162) hx hb dX5_isTaken_155 (by decide) (fun c_22 => ?_) (fun c_22 => ?_)
                  · have hF := hF.2 c_22
                    refine lv_iconst (v := 0) hx hb dX5_isTaken_162 (by decide) ?_
                    exact retZ S hr hlocks hP hS rfl hF dX5_isTaken_163
                  · have hF := hF.1 c_22
                    refine lv_iconst (v := 1) hx hb dX5_isTaken_158 (by decide) ?_
                    refine lv_goto (tgt := 163) hx hb dX5_isTaken_159 (by decide) ?_
                    exact retZ S hr hlocks hP hS rfl hF dX5_isTaken_163
                · have hF := hF.2 c_21
                  refine lv_aload_n hx hb dX5_isTaken_121 rfl (lv_at hl 0 rfl) ?_
                  refine lv_bipush (v := 59) hx hb dX5_isTaken_122 (by decide) ?_
                  refine goZ (rV (rest := []) S hK hP (ctX5_takes l D cI cJ ad had (59 : Int32) _ _ hF) (cwV 1 hts gX5_isTaken_X5_takes rfl rfl rfl hdV_X5_takes ⟨Nat.le_of_ble_eq_true rfl, Nat.le_of_ble_eq_true rfl⟩) e_T rfl rfl hl.1 rfl (Nat.le_of_ble_eq_true rfl) dX5_isTaken_124 ⟨Nat.zero_le _, Nat.zero_le _⟩) hS (fun _ h => h) (fun r_23 M_23 H locs hP hS hz_r_23 hF => ?_)
                  refine lv_if_eq (tgt := 139) hx hb dX5_isTaken_127 (by decide) (fun c_24 => ?_) (fun c_24 => ?_)
                  · have hF := hF.1 c_24
                    refine lv_iconst (v := 0) hx hb dX5_isTaken_139 (by decide) ?_
                    exact retZ S hr hlocks hP hS rfl hF dX5_isTaken_140
                  · have hF := hF.2 c_24
                    refine lv_aload_n hx hb dX5_isTaken_130 rfl (lv_at hl 0 rfl) ?_
                    refine lv_iload hx hb dX5_isTaken_131 (lv_at hl 1 rfl) ?_
                    refine goZ (rV (rest := []) S hK hP (ctX5_takesSort l D cI cJ ad had x4_104 _ _ hF) (cwV 1 hts gX5_isTaken_X5_takesSort rfl rfl rfl hdV_X5_takesSort ⟨Nat.le_of_ble_eq_true rfl, Nat.le_of_ble_eq_true rfl⟩) e_T rfl rfl hl.1 rfl (Nat.le_of_ble_eq_true rfl) dX5_isTaken_133 ⟨Nat.zero_le _, Nat.zero_le _⟩) hS (fun _ h => h) (fun r_25 M_25 H locs hP hS hz_r_25 hF => ?_)
                    refine lv_if_ne (tgt := 141) hx hb dX5_isTaken_136 (by decide) (fun c_26 => ?_) (fun c_26 => ?_)
                    · have hF := hF.2 c_26
                      refine lv_iinc (v := (x4_104 + 1)) (lv' := [(4, .int (x4_104 + 1)), (0, .ref (ad 2))]) hx hb dX5_isTaken_141 hl (k := 1) rfl rfl (by decide) rfl (fun ls hl => ?_)
                      refine lv_goto (tgt := 104) hx hb dX5_isTaken_144 (by decide) ?_
                      exact hJ_104 _ _ hF _ _ _ hP hS (lv_sub hl [1, 0] rfl)
                    · have hF := hF.1 c_26
                      refine lv_iconst (v := 0) hx hb dX5_isTaken_139 (by decide) ?_
                      exact retZ S hr hlocks hP hS rfl hF dX5_isTaken_140
            exact key_104 _ _ hF _ _ _ hP hS (lv_sub hl [1, 0] rfl)
          · have hF := hF.1 c_17
            refine lv_iconst (v := 0) hx hb dX5_isTaken_91 (by decide) ?_
            exact retZ S hr hlocks hP hS rfl hF dX5_isTaken_92
    · have hF := hF.1 c_10
      refine lv_iconst (v := 0) hx hb dX5_isTaken_53 (by decide) ?_
      exact retZ S hr hlocks hP hS rfl hF dX5_isTaken_54
def bX2_becomes_31 (Q : Mm → Prop) (J_31 : Int32 → Mm → Prop) (x2_31 : Int32) (m31 : Mm) : Prop := (((3 : Int32) ≤ x2_31 → (∀ M_6 : Mm, M_6 = (si m31 15 (0 : Int32)) → (∀ M_7 : Mm, M_7 = (si M_6 16 (0 : Int32)) → (∀ M_8 : Mm, M_8 = (si M_7 17 (0 : Int32)) → (Q M_8))))) ∧ (¬ (3 : Int32) ≤ x2_31 → (wX6_at 11 x2_31 (fun r_9 M_9 => (wX6_set 13 x2_31 r_9 (fun M_10 => (wX6_at 12 x2_31 (fun r_11 M_11 => (wX6_set 14 x2_31 r_11 (fun M_12 => (wX6_set 15 x2_31 (0 : Int32) (fun M_13 => (J_31 (x2_31 + 1) M_13)) M_12)) M_11)) M_10)) M_9)) m31)))
def lX2_becomes_31 (Q : Mm → Prop) (x2_31 : Int32) (m31 : Mm) : Prop := ∀ I : Int32 → Mm → Prop, (∀ J : Int32 → Mm → Prop, (∀ (x2_31 : Int32) (m : Mm), J x2_31 m → I x2_31 m) → ∀ (x2_31 : Int32) (m : Mm), bX2_becomes_31 Q J x2_31 m → I x2_31 m) → I x2_31 m31
theorem lX2_becomes_31_mk (Q : Mm → Prop) (x2_31 : Int32) (m31 : Mm) (h : bX2_becomes_31 Q (lX2_becomes_31 Q) x2_31 m31) : lX2_becomes_31 Q x2_31 m31 := fun I hI => hI (lX2_becomes_31 Q) (fun _ _ q => q I hI) _ _ h
def wX2_becomes (Q : Mm → Prop) (M : Mm) : Prop := (∀ M_1 : Mm, M_1 = (si M 11 (1 : Int32)) → (∀ M_2 : Mm, M_2 = (si M_1 12 (gi M_1 7)) → (∀ M_3 : Mm, M_3 = (si M_2 13 (gi M_2 8)) → (∀ M_4 : Mm, M_4 = (si M_3 14 (gi M_3 9)) → (lX2_becomes_31 Q (0 : Int32) M_4)))))
set_option maxHeartbeats 4000000 in
set_option maxRecDepth 100000 in
theorem ctX2_becomes (l : Launch) (D : va_G) (cI cJ : ClassId) (ad : Nat → Nat) (had : inj54 ad)  (Q : Mm → Prop) (M : Mm) (hF : wX2_becomes Q M) : Met l yX2_becomes wsX2_becomes ({ frames := 1, cells := 0, slots := 0, locals := 22 } : Room) (PcW D cI cJ ad M [.ref (ad 3), .ref (ad 2)]) (QvW D cI cJ ad Q) 0 0 (Fr ad) := by
  refine entW (y := yX2_becomes) (ret := none) (maxL := 3) (plainFor_of_name (by decide)) rfl (Nat.le_of_ble_eq_true rfl) ?_
  intro p e s m args below meth c ls S hK hr hlocks hP hS hl
  have hx := S.1
  have hb := S.2.1
  have hown := S.2.2.2.1
  have hts := S.2.2.2.2
  have i2 : ∀ w ∈ wsX20, w ∈ wsX2_becomes := by decide +kernel
  have i5 : ∀ w ∈ wsX50, w ∈ wsX2_becomes := by decide +kernel
  have k21 := hts (.fieldLink RX2 21 "RopeLine$Place" "isTold" "Z") (by decide +kernel)
  have k31 := hts (.fieldLink RX2 31 "RopeLine$Place" "served" "I") (by decide +kernel)
  have k35 := hts (.fieldLink RX2 35 "RopeLine$Place" "cost" "I") (by decide +kernel)
  have k39 := hts (.fieldLink RX2 39 "RopeLine$Place" "sorts" "I") (by decide +kernel)
  have k50 := hts (.fieldLink RX2 50 "RopeLine$Place" "toll" "I") (by decide +kernel)
  have k53 := hts (.fieldLink RX2 53 "RopeLine$Place" "step" "I") (by decide +kernel)
  have k56 := hts (.fieldLink RX2 56 "RopeLine$Place" "lie" "I") (by decide +kernel)
  have k9 := hts (.fieldLink RX2 9 "RopeLine$Place" "twelfths" "[I") (by decide +kernel)
  have k15 := hts (.fieldLink RX2 15 "RopeLine$Place" "worths" "[I") (by decide +kernel)
  have k18 := hts (.fieldLink RX2 18 "RopeLine$Place" "bars" "[I") (by decide +kernel)
  have hl : lv_has ls 3 [(0, .ref (ad 3)), (1, .ref (ad 2))] := hl
  unfold wX2_becomes at hF
  refine lv_aload_n hx hb dX2_becomes_0 rfl (lv_at hl 0 rfl) ?_
  refine lv_iconst (v := 1) hx hb dX2_becomes_1 (by decide) ?_
  refine pF S hK had hP hS i2 tyX2_ok nmX2 e_P rfl 3 (by decide) k21 rfl rfl rfl (Nat.lt_of_lt_of_eq (by decide) len_P.symm) s_P_isTold dX2_becomes_2 (fun M_1 H locs eM_1 hP hS => ?_)
  have hF := hF M_1 eM_1
  refine lv_aload_n hx hb dX2_becomes_5 rfl (lv_at hl 0 rfl) ?_
  refine lv_aload_n hx hb dX2_becomes_6 rfl (lv_at hl 1 rfl) ?_
  refine gN S hK hP i5 e_T rfl 7 (by decide) nw_RX2_25 f_T_served dX2_becomes_7 ?_
  refine pF S hK had hP hS i2 tyX2_ok nmX2 e_P rfl 4 (by decide) k31 rfl rfl rfl (Nat.lt_of_lt_of_eq (by decide) len_P.symm) s_P_served dX2_becomes_10 (fun M_2 H locs eM_2 hP hS => ?_)
  have hF := hF M_2 eM_2
  refine lv_aload_n hx hb dX2_becomes_13 rfl (lv_at hl 0 rfl) ?_
  refine lv_aload_n hx hb dX2_becomes_14 rfl (lv_at hl 1 rfl) ?_
  refine gN S hK hP i5 e_T rfl 8 (by decide) nw_RX2_32 f_T_cost dX2_becomes_15 ?_
  refine pF S hK had hP hS i2 tyX2_ok nmX2 e_P rfl 5 (by decide) k35 rfl rfl rfl (Nat.lt_of_lt_of_eq (by decide) len_P.symm) s_P_cost dX2_becomes_18 (fun M_3 H locs eM_3 hP hS => ?_)
  have hF := hF M_3 eM_3
  refine lv_aload_n hx hb dX2_becomes_21 rfl (lv_at hl 0 rfl) ?_
  refine lv_aload_n hx hb dX2_becomes_22 rfl (lv_at hl 1 rfl) ?_
  refine gN S hK hP i5 e_T rfl 9 (by decide) nw_RX2_36 f_T_sorts dX2_becomes_23 ?_
  refine pF S hK had hP hS i2 tyX2_ok nmX2 e_P rfl 6 (by decide) k39 rfl rfl rfl (Nat.lt_of_lt_of_eq (by decide) len_P.symm) s_P_sorts dX2_becomes_26 (fun M_4 H locs eM_4 hP hS => ?_)
  have hF := hF M_4 eM_4
  refine lv_iconst (v := 0) hx hb dX2_becomes_29 (by decide) ?_
  refine lv_istore_n (lv' := [(2, .int (0 : Int32)), (0, .ref (ad 3)), (1, .ref (ad 2))]) hx hb dX2_becomes_30 rfl hl (by decide) rfl (fun ls hl => ?_)
  have key_31 : ∀ (x2_31 : Int32) (m31 : Mm), (lX2_becomes_31 Q x2_31 m31) → Wc p l e ({ frames := 1, cells := 0, slots := 0, locals := 22 } : Room) s m args below meth c D cI cJ ad (MQ below (QvW D cI cJ ad Q) args s 0 0 (Fr ad)) 3 31 [(0, .ref (ad 3)), (1, .ref (ad 2)), (2, .int x2_31)] m31 := by
    intro x2_31 m31 hL
    refine hL (fun x2_31 m31 => Wc p l e ({ frames := 1, cells := 0, slots := 0, locals := 22 } : Room) s m args below meth c D cI cJ ad (MQ below (QvW D cI cJ ad Q) args s 0 0 (Fr ad)) 3 31 [(0, .ref (ad 3)), (1, .ref (ad 2)), (2, .int x2_31)] m31) ?_
    intro J_31 hJ_31 x2_31 m31 hF H locs ls hP hS hl
    unfold bX2_becomes_31 at hF
    refine lv_iload_n hx hb dX2_becomes_31 rfl (lv_at hl 2 rfl) ?_
    refine lv_iconst (v := 3) hx hb dX2_becomes_32 (by decide) ?_
    refine lv_icmp_ge (tgt := 83) hx hb dX2_becomes_33 (by decide) (fun c_5 => ?_) (fun c_5 => ?_)
    · have hF := hF.1 c_5
      refine lv_aload_n hx hb dX2_becomes_83 rfl (lv_at hl 0 rfl) ?_
      refine lv_iconst (v := 0) hx hb dX2_becomes_84 (by decide) ?_
      refine pF S hK had hP hS i2 tyX2_ok nmX2 e_P rfl 7 (by decide) k50 rfl rfl rfl (Nat.lt_of_lt_of_eq (by decide) len_P.symm) s_P_toll dX2_becomes_85 (fun M_6 H locs eM_6 hP hS => ?_)
      have hF := hF M_6 eM_6
      refine lv_aload_n hx hb dX2_becomes_88 rfl (lv_at hl 0 rfl) ?_
      refine lv_iconst (v := 0) hx hb dX2_becomes_89 (by decide) ?_
      refine pF S hK had hP hS i2 tyX2_ok nmX2 e_P rfl 8 (by decide) k53 rfl rfl rfl (Nat.lt_of_lt_of_eq (by decide) len_P.symm) s_P_step dX2_becomes_90 (fun M_7 H locs eM_7 hP hS => ?_)
      have hF := hF M_7 eM_7
      refine lv_aload_n hx hb dX2_becomes_93 rfl (lv_at hl 0 rfl) ?_
      refine lv_iconst (v := 0) hx hb dX2_becomes_94 (by decide) ?_
      refine pF S hK had hP hS i2 tyX2_ok nmX2 e_P rfl 9 (by decide) k56 rfl rfl rfl (Nat.lt_of_lt_of_eq (by decide) len_P.symm) s_P_lie dX2_becomes_95 (fun M_8 H locs eM_8 hP hS => ?_)
      have hF := hF M_8 eM_8
      exact retV S hr hlocks hP hS hF dX2_becomes_98
    · have hF := hF.2 c_5
      refine lv_aload_n hx hb dX2_becomes_36 rfl (lv_at hl 0 rfl) ?_
      refine gF S hK hP i2 e_P rfl 0 (by decide) k9 f_P_twelfths dX2_becomes_37 ?_
      refine lv_iload_n hx hb dX2_becomes_40 rfl (lv_at hl 2 rfl) ?_
      refine lv_aload_n hx hb dX2_becomes_41 rfl (lv_at hl 1 rfl) ?_
      refine gN S hK hP i5 e_T rfl 0 (by decide) nw_RX2_40 f_T_twelfths dX2_becomes_42 ?_
      refine lv_iload_n hx hb dX2_becomes_45 rfl (lv_at hl 2 rfl) ?_
      refine goI (rSN (rest := [.int x2_31, .ref (ad 13)]) S hK hP (ctX6_at l D cI cJ ad had 11 rfl x2_31 _ _ hF) ⟨va_cnB 2 hts ggX2_becomes_X6_at rfl rfl rfl (hK.2 _ nw_RX2_41) (hts (.initialized RX6) (by decide +kernel)) hdS_X6_at ⟨Nat.le_of_ble_eq_true rfl, Nat.le_of_ble_eq_true rfl⟩, hts (.static yX6_at) (by decide +kernel), trivial⟩ rfl hl.1 rfl (Nat.le_of_ble_eq_true rfl) dX2_becomes_46 ⟨Nat.zero_le _, Nat.zero_le _⟩) hS (fun _ h => h) (fun r_9 M_9 H locs hP hS hF => ?_)
      refine goV (rSN (rest := []) S hK hP (ctX6_set l D cI cJ ad had 13 rfl x2_31 r_9 _ _ hF) ⟨va_cnB 3 hts ggX2_becomes_X6_set rfl rfl rfl (hK.2 _ nw_RX2_45) (hts (.initialized RX6) (by decide +kernel)) hdS_X6_set ⟨Nat.le_of_ble_eq_true rfl, Nat.le_of_ble_eq_true rfl⟩, hts (.static yX6_set) (by decide +kernel), trivial⟩ rfl hl.1 rfl (Nat.le_of_ble_eq_true rfl) dX2_becomes_49 ⟨Nat.zero_le _, Nat.zero_le _⟩) hS (fun _ h => h) (fun M_10 H locs hP hS hF => ?_)
      refine lv_aload_n hx hb dX2_becomes_52 rfl (lv_at hl 0 rfl) ?_
      refine gF S hK hP i2 e_P rfl 1 (by decide) k15 f_P_worths dX2_becomes_53 ?_
      refine lv_iload_n hx hb dX2_becomes_56 rfl (lv_at hl 2 rfl) ?_
      refine lv_aload_n hx hb dX2_becomes_57 rfl (lv_at hl 1 rfl) ?_
      refine gN S hK hP i5 e_T rfl 1 (by decide) nw_RX2_49 f_T_worths dX2_becomes_58 ?_
      refine lv_iload_n hx hb dX2_becomes_61 rfl (lv_at hl 2 rfl) ?_
      refine goI (rSN (rest := [.int x2_31, .ref (ad 14)]) S hK hP (ctX6_at l D cI cJ ad had 12 rfl x2_31 _ _ hF) ⟨va_cnB 2 hts ggX2_becomes_X6_at rfl rfl rfl (hK.2 _ nw_RX2_41) (hts (.initialized RX6) (by decide +kernel)) hdS_X6_at ⟨Nat.le_of_ble_eq_true rfl, Nat.le_of_ble_eq_true rfl⟩, hts (.static yX6_at) (by decide +kernel), trivial⟩ rfl hl.1 rfl (Nat.le_of_ble_eq_true rfl) dX2_becomes_62 ⟨Nat.zero_le _, Nat.zero_le _⟩) hS (fun _ h => h) (fun r_11 M_11 H locs hP hS hF => ?_)
      refine goV (rSN (rest := []) S hK hP (ctX6_set l D cI cJ ad had 14 rfl x2_31 r_11 _ _ hF) ⟨va_cnB 3 hts ggX2_becomes_X6_set rfl rfl rfl (hK.2 _ nw_RX2_45) (hts (.initialized RX6) (by decide +kernel)) hdS_X6_set ⟨Nat.le_of_ble_eq_true rfl, Nat.le_of_ble_eq_true rfl⟩, hts (.static yX6_set) (by decide +kernel), trivial⟩ rfl hl.1 rfl (Nat.le_of_ble_eq_true rfl) dX2_becomes_65 ⟨Nat.zero_le _, Nat.zero_le _⟩) hS (fun _ h => h) (fun M_12 H locs hP hS hF => ?_)
      refine lv_aload_n hx hb dX2_becomes_68 rfl (lv_at hl 0 rfl) ?_
      refine gF S hK hP i2 e_P rfl 2 (by decide) k18 f_P_bars dX2_becomes_69 ?_
      refine lv_iload_n hx hb dX2_becomes_72 rfl (lv_at hl 2 rfl) ?_
      refine lv_iconst (v := 0) hx hb dX2_becomes_73 (by decide) ?_
      refine goV (rSN (rest := []) S hK hP (ctX6_set l D cI cJ ad had 15 rfl x2_31 (0 : Int32) _ _ hF) ⟨va_cnB 3 hts ggX2_becomes_X6_set rfl rfl rfl (hK.2 _ nw_RX2_45) (hts (.initialized RX6) (by decide +kernel)) hdS_X6_set ⟨Nat.le_of_ble_eq_true rfl, Nat.le_of_ble_eq_true rfl⟩, hts (.static yX6_set) (by decide +kernel), trivial⟩ rfl hl.1 rfl (Nat.le_of_ble_eq_true rfl) dX2_becomes_74 ⟨Nat.zero_le _, Nat.zero_le _⟩) hS (fun _ h => h) (fun M_13 H locs hP hS hF => ?_)
      refine lv_iinc (v := (x2_31 + 1)) (lv' := [(2, .int (x2_31 + 1)), (0, .ref (ad 3)), (1, .ref (ad 2))]) hx hb dX2_becomes_77 hl (k := 2) rfl rfl (by decide) rfl (fun ls hl => ?_)
      refine lv_goto (tgt := 31) hx hb dX2_becomes_80 (by decide) ?_
      exact hJ_31 _ _ hF _ _ _ hP hS (lv_sub hl [1, 2, 0] rfl)
  exact key_31 _ _ hF _ _ _ hP hS (lv_sub hl [1, 2, 0] rfl)
def wX3_empties (Q : Mm → Prop) (M : Mm) : Prop := (∀ M_1 : Mm, M_1 = (si M 23 (0 : Int32)) → (∀ M_2 : Mm, M_2 = (si M_1 24 (0 : Int32)) → (∀ M_3 : Mm, M_3 = (si M_2 25 (0 : Int32)) → (Q M_3))))
set_option maxHeartbeats 4000000 in
set_option maxRecDepth 100000 in
theorem ctX3_empties (l : Launch) (D : va_G) (cI cJ : ClassId) (ad : Nat → Nat) (had : inj54 ad)  (Q : Mm → Prop) (M : Mm) (hF : wX3_empties Q M) : Met l yX3_empties wsX3_empties ({ frames := 0, cells := 0, slots := 0, locals := 0 } : Room) (PcW D cI cJ ad M [.ref (ad 6)]) (QvW D cI cJ ad Q) 0 0 (Fr ad) := by
  refine entW (y := yX3_empties) (ret := none) (maxL := 1) (plainFor_of_name (by decide)) rfl (Nat.le_of_ble_eq_true rfl) ?_
  intro p e s m args below meth c ls S hK hr hlocks hP hS hl
  have hx := S.1
  have hb := S.2.1
  have hown := S.2.2.2.1
  have hts := S.2.2.2.2
  have i3 : ∀ w ∈ wsX30, w ∈ wsX3_empties := by decide +kernel
  have k30 := hts (.fieldLink RX3 30 "RopeLine$Queue" "comers" "I") (by decide +kernel)
  have k34 := hts (.fieldLink RX3 34 "RopeLine$Queue" "standing" "I") (by decide +kernel)
  have k37 := hts (.fieldLink RX3 37 "RopeLine$Queue" "minutes" "I") (by decide +kernel)
  have hl : lv_has ls 1 [(0, .ref (ad 6))] := hl
  unfold wX3_empties at hF
  refine lv_aload_n hx hb dX3_empties_0 rfl (lv_at hl 0 rfl) ?_
  refine lv_iconst (v := 0) hx hb dX3_empties_1 (by decide) ?_
  refine pF S hK had hP hS i3 tyX3_ok nmX3 e_Q rfl 6 (by decide) k30 rfl rfl rfl (Nat.lt_of_lt_of_eq (by decide) len_Q.symm) s_Q_comers dX3_empties_2 (fun M_1 H locs eM_1 hP hS => ?_)
  have hF := hF M_1 eM_1
  refine lv_aload_n hx hb dX3_empties_5 rfl (lv_at hl 0 rfl) ?_
  refine lv_iconst (v := 0) hx hb dX3_empties_6 (by decide) ?_
  refine pF S hK had hP hS i3 tyX3_ok nmX3 e_Q rfl 7 (by decide) k34 rfl rfl rfl (Nat.lt_of_lt_of_eq (by decide) len_Q.symm) s_Q_standing dX3_empties_7 (fun M_2 H locs eM_2 hP hS => ?_)
  have hF := hF M_2 eM_2
  refine lv_aload_n hx hb dX3_empties_10 rfl (lv_at hl 0 rfl) ?_
  refine lv_iconst (v := 0) hx hb dX3_empties_11 (by decide) ?_
  refine pF S hK had hP hS i3 tyX3_ok nmX3 e_Q rfl 8 (by decide) k37 rfl rfl rfl (Nat.lt_of_lt_of_eq (by decide) len_Q.symm) s_Q_minutes dX3_empties_12 (fun M_3 H locs eM_3 hP hS => ?_)
  have hF := hF M_3 eM_3
  exact retV S hr hlocks hP hS hF dX3_empties_15
def bX2_twelfthsTogether_4 (Q : Int32 → Mm → Prop) (J_4 : Int32 → Int32 → Mm → Prop) (x1_4 : Int32) (x2_4 : Int32) (m4 : Mm) : Prop := (((gi m4 14) ≤ x2_4 → (Q x1_4 m4)) ∧ (¬ (gi m4 14) ≤ x2_4 → (wX6_at 13 x2_4 (fun r_2 M_2 => (J_4 (x1_4 + r_2) (x2_4 + 1) M_2)) m4)))
def lX2_twelfthsTogether_4 (Q : Int32 → Mm → Prop) (x1_4 : Int32) (x2_4 : Int32) (m4 : Mm) : Prop := ∀ I : Int32 → Int32 → Mm → Prop, (∀ J : Int32 → Int32 → Mm → Prop, (∀ (x1_4 : Int32) (x2_4 : Int32) (m : Mm), J x1_4 x2_4 m → I x1_4 x2_4 m) → ∀ (x1_4 : Int32) (x2_4 : Int32) (m : Mm), bX2_twelfthsTogether_4 Q J x1_4 x2_4 m → I x1_4 x2_4 m) → I x1_4 x2_4 m4
theorem lX2_twelfthsTogether_4_mk (Q : Int32 → Mm → Prop) (x1_4 : Int32) (x2_4 : Int32) (m4 : Mm) (h : bX2_twelfthsTogether_4 Q (lX2_twelfthsTogether_4 Q) x1_4 x2_4 m4) : lX2_twelfthsTogether_4 Q x1_4 x2_4 m4 := fun I hI => hI (lX2_twelfthsTogether_4 Q) (fun _ _ _ q => q I hI) _ _ _ h
def wX2_twelfthsTogether (Q : Int32 → Mm → Prop) (M : Mm) : Prop := (lX2_twelfthsTogether_4 Q (0 : Int32) (0 : Int32) M)
set_option maxHeartbeats 4000000 in
set_option maxRecDepth 100000 in
theorem ctX2_twelfthsTogether (l : Launch) (D : va_G) (cI cJ : ClassId) (ad : Nat → Nat) (had : inj54 ad)  (Q : Int32 → Mm → Prop) (M : Mm) (hF : wX2_twelfthsTogether Q M) : Met l yX2_twelfthsTogether wsX2_twelfthsTogether ({ frames := 1, cells := 0, slots := 0, locals := 21 } : Room) (PcW D cI cJ ad M [.ref (ad 3)]) (QiW D cI cJ ad Q) 0 0 (Fr ad) := by
  refine entW (y := yX2_twelfthsTogether) (ret := some .int) (maxL := 3) (plainFor_of_name (by decide)) rfl (Nat.le_of_ble_eq_true rfl) ?_
  intro p e s m args below meth c ls S hK hr hlocks hP hS hl
  have hx := S.1
  have hb := S.2.1
  have hown := S.2.2.2.1
  have hts := S.2.2.2.2
  have i2 : ∀ w ∈ wsX20, w ∈ wsX2_twelfthsTogether := by decide +kernel
  have k39 := hts (.fieldLink RX2 39 "RopeLine$Place" "sorts" "I") (by decide +kernel)
  have k9 := hts (.fieldLink RX2 9 "RopeLine$Place" "twelfths" "[I") (by decide +kernel)
  have hl : lv_has ls 3 [(0, .ref (ad 3))] := hl
  unfold wX2_twelfthsTogether at hF
  refine lv_iconst (v := 0) hx hb dX2_twelfthsTogether_0 (by decide) ?_
  refine lv_istore_n (lv' := [(1, .int (0 : Int32)), (0, .ref (ad 3))]) hx hb dX2_twelfthsTogether_1 rfl hl (by decide) rfl (fun ls hl => ?_)
  refine lv_iconst (v := 0) hx hb dX2_twelfthsTogether_2 (by decide) ?_
  refine lv_istore_n (lv' := [(2, .int (0 : Int32)), (1, .int (0 : Int32)), (0, .ref (ad 3))]) hx hb dX2_twelfthsTogether_3 rfl hl (by decide) rfl (fun ls hl => ?_)
  have key_4 : ∀ (x1_4 : Int32) (x2_4 : Int32) (m4 : Mm), (lX2_twelfthsTogether_4 Q x1_4 x2_4 m4) → Wc p l e ({ frames := 1, cells := 0, slots := 0, locals := 21 } : Room) s m args below meth c D cI cJ ad (MQ below (QiW D cI cJ ad Q) args s 0 0 (Fr ad)) 3 4 [(0, .ref (ad 3)), (1, .int x1_4), (2, .int x2_4)] m4 := by
    intro x1_4 x2_4 m4 hL
    refine hL (fun x1_4 x2_4 m4 => Wc p l e ({ frames := 1, cells := 0, slots := 0, locals := 21 } : Room) s m args below meth c D cI cJ ad (MQ below (QiW D cI cJ ad Q) args s 0 0 (Fr ad)) 3 4 [(0, .ref (ad 3)), (1, .int x1_4), (2, .int x2_4)] m4) ?_
    intro J_4 hJ_4 x1_4 x2_4 m4 hF H locs ls hP hS hl
    unfold bX2_twelfthsTogether_4 at hF
    refine lv_iload_n hx hb dX2_twelfthsTogether_4 rfl (lv_at hl 2 rfl) ?_
    refine lv_aload_n hx hb dX2_twelfthsTogether_5 rfl (lv_at hl 0 rfl) ?_
    refine gF S hK hP i2 e_P rfl 6 (by decide) k39 f_P_sorts dX2_twelfthsTogether_6 ?_
    refine lv_icmp_ge (tgt := 29) hx hb dX2_twelfthsTogether_9 (by decide) (fun c_1 => ?_) (fun c_1 => ?_)
    · have hF := hF.1 c_1
      refine lv_iload_n hx hb dX2_twelfthsTogether_29 rfl (lv_at hl 1 rfl) ?_
      exact retI S hr hlocks hP hS hF dX2_twelfthsTogether_30
    · have hF := hF.2 c_1
      refine lv_iload_n hx hb dX2_twelfthsTogether_12 rfl (lv_at hl 1 rfl) ?_
      refine lv_aload_n hx hb dX2_twelfthsTogether_13 rfl (lv_at hl 0 rfl) ?_
      refine gF S hK hP i2 e_P rfl 0 (by decide) k9 f_P_twelfths dX2_twelfthsTogether_14 ?_
      refine lv_iload_n hx hb dX2_twelfthsTogether_17 rfl (lv_at hl 2 rfl) ?_
      refine goI (rSN (rest := [.int x1_4]) S hK hP (ctX6_at l D cI cJ ad had 13 rfl x2_4 _ _ hF) ⟨va_cnB 2 hts ggX2_twelfthsTogether_X6_at rfl rfl rfl (hK.2 _ nw_RX2_41) (hts (.initialized RX6) (by decide +kernel)) hdS_X6_at ⟨Nat.le_of_ble_eq_true rfl, Nat.le_of_ble_eq_true rfl⟩, hts (.static yX6_at) (by decide +kernel), trivial⟩ rfl hl.1 rfl (Nat.le_of_ble_eq_true rfl) dX2_twelfthsTogether_18 ⟨Nat.zero_le _, Nat.zero_le _⟩) hS (fun _ h => h) (fun r_2 M_2 H locs hP hS hF => ?_)
      refine lv_iadd hx hb dX2_twelfthsTogether_21 ?_
      refine lv_istore_n (lv' := [(1, .int (x1_4 + r_2)), (0, .ref (ad 3)), (2, .int x2_4)]) hx hb dX2_twelfthsTogether_22 rfl hl (by decide) rfl (fun ls hl => ?_)
      refine lv_iinc (v := (x2_4 + 1)) (lv' := [(2, .int (x2_4 + 1)), (1, .int (x1_4 + r_2)), (0, .ref (ad 3))]) hx hb dX2_twelfthsTogether_23 hl (k := 2) rfl rfl (by decide) rfl (fun ls hl => ?_)
      refine lv_goto (tgt := 4) hx hb dX2_twelfthsTogether_26 (by decide) ?_
      exact hJ_4 _ _ _ hF _ _ _ hP hS (lv_sub hl [2, 1, 0] rfl)
  exact key_4 _ _ _ hF _ _ _ hP hS (lv_sub hl [2, 1, 0] rfl)
def wX2_has (a1 : Int32) (Q : Int32 → Mm → Prop) (M : Mm) : Prop := (wX6_isWithin a1 (0 : Int32) ((gi M 14) - (1 : Int32)) (fun r_1 M_1 => (Q r_1 M_1)) M)
set_option maxHeartbeats 4000000 in
set_option maxRecDepth 100000 in
theorem ctX2_has (l : Launch) (D : va_G) (cI cJ : ClassId) (ad : Nat → Nat) (had : inj54 ad) (a1 : Int32) (Q : Int32 → Mm → Prop) (M : Mm) (hF : wX2_has a1 Q M) : Met l yX2_has wsX2_has ({ frames := 1, cells := 0, slots := 0, locals := 22 } : Room) (PcW D cI cJ ad M [.ref (ad 3), .int a1]) (QzW D cI cJ ad Q) 0 0 (Fr ad) := by
  refine entW (y := yX2_has) (ret := some .boolean) (maxL := 2) (plainFor_of_name (by decide)) rfl (Nat.le_of_ble_eq_true rfl) ?_
  intro p e s m args below meth c ls S hK hr hlocks hP hS hl
  have hx := S.1
  have hb := S.2.1
  have hown := S.2.2.2.1
  have hts := S.2.2.2.2
  have i2 : ∀ w ∈ wsX20, w ∈ wsX2_has := by decide +kernel
  have k39 := hts (.fieldLink RX2 39 "RopeLine$Place" "sorts" "I") (by decide +kernel)
  have hl : lv_has ls 2 [(0, .ref (ad 3)), (1, .int a1)] := hl
  unfold wX2_has at hF
  refine lv_iload_n hx hb dX2_has_0 rfl (lv_at hl 1 rfl) ?_
  refine lv_iconst (v := 0) hx hb dX2_has_1 (by decide) ?_
  refine lv_aload_n hx hb dX2_has_2 rfl (lv_at hl 0 rfl) ?_
  refine gF S hK hP i2 e_P rfl 6 (by decide) k39 f_P_sorts dX2_has_3 ?_
  refine lv_iconst (v := 1) hx hb dX2_has_6 (by decide) ?_
  refine lv_isub hx hb dX2_has_7 ?_
  refine goZ (rSN (rest := []) S hK hP (ctX6_isWithin l D cI cJ ad had a1 (0 : Int32) ((gi M 14) - (1 : Int32)) _ _ hF) ⟨va_cnB 3 hts ggX2_has_X6_isWithin rfl rfl rfl (hK.2 _ nw_RX2_59) (hts (.initialized RX6) (by decide +kernel)) hdS_X6_isWithin ⟨Nat.le_of_ble_eq_true rfl, Nat.le_of_ble_eq_true rfl⟩, hts (.static yX6_isWithin) (by decide +kernel), trivial⟩ rfl hl.1 rfl (Nat.le_of_ble_eq_true rfl) dX2_has_8 ⟨Nat.zero_le _, Nat.zero_le _⟩) hS (fun _ h => h) (fun r_1 M_1 H locs hP hS hz_r_1 hF => ?_)
  exact retZ S hr hlocks hP hS hz_r_1 hF dX2_has_11
def bX2_hisBarUnseen_2 (a1 : Int32) (a2 : Int32) (Q : Int32 → Mm → Prop) (J_2 : Int32 → Mm → Prop) (x3_2 : Int32) (m2 : Mm) : Prop := ((x3_2 ≤ 0 → (Q (0 : Int32) m2)) ∧ (¬ x3_2 ≤ 0 → (wX6_at 14 a1 (fun r_2 M_2 => ((((r_2 - a2) * (gi M_2 12)) < (((gi M_2 13) * (12 : Int32)) * x3_2) → (J_2 (x3_2 + (-1)) M_2)) ∧ (¬ ((r_2 - a2) * (gi M_2 12)) < (((gi M_2 13) * (12 : Int32)) * x3_2) → (Q x3_2 M_2)))) m2)))
def lX2_hisBarUnseen_2 (a1 : Int32) (a2 : Int32) (Q : Int32 → Mm → Prop) (x3_2 : Int32) (m2 : Mm) : Prop := ∀ I : Int32 → Mm → Prop, (∀ J : Int32 → Mm → Prop, (∀ (x3_2 : Int32) (m : Mm), J x3_2 m → I x3_2 m) → ∀ (x3_2 : Int32) (m : Mm), bX2_hisBarUnseen_2 a1 a2 Q J x3_2 m → I x3_2 m) → I x3_2 m2
theorem lX2_hisBarUnseen_2_mk (a1 : Int32) (a2 : Int32) (Q : Int32 → Mm → Prop) (x3_2 : Int32) (m2 : Mm) (h : bX2_hisBarUnseen_2 a1 a2 Q (lX2_hisBarUnseen_2 a1 a2 Q) x3_2 m2) : lX2_hisBarUnseen_2 a1 a2 Q x3_2 m2 := fun I hI => hI (lX2_hisBarUnseen_2 a1 a2 Q) (fun _ _ q => q I hI) _ _ h
def wX2_hisBarUnseen (a1 : Int32) (a2 : Int32) (Q : Int32 → Mm → Prop) (M : Mm) : Prop := (lX2_hisBarUnseen_2 a1 a2 Q (5 : Int32) M)
set_option maxHeartbeats 4000000 in
set_option maxRecDepth 100000 in
theorem ctX2_hisBarUnseen (l : Launch) (D : va_G) (cI cJ : ClassId) (ad : Nat → Nat) (had : inj54 ad) (a1 : Int32) (a2 : Int32) (Q : Int32 → Mm → Prop) (M : Mm) (hF : wX2_hisBarUnseen a1 a2 Q M) : Met l yX2_hisBarUnseen wsX2_hisBarUnseen ({ frames := 1, cells := 0, slots := 0, locals := 21 } : Room) (PcW D cI cJ ad M [.ref (ad 3), .int a1, .int a2]) (QiW D cI cJ ad Q) 0 0 (Fr ad) := by
  refine entW (y := yX2_hisBarUnseen) (ret := some .int) (maxL := 4) (plainFor_of_name (by decide)) rfl (Nat.le_of_ble_eq_true rfl) ?_
  intro p e s m args below meth c ls S hK hr hlocks hP hS hl
  have hx := S.1
  have hb := S.2.1
  have hown := S.2.2.2.1
  have hts := S.2.2.2.2
  have i2 : ∀ w ∈ wsX20, w ∈ wsX2_hisBarUnseen := by decide +kernel
  have k15 := hts (.fieldLink RX2 15 "RopeLine$Place" "worths" "[I") (by decide +kernel)
  have k31 := hts (.fieldLink RX2 31 "RopeLine$Place" "served" "I") (by decide +kernel)
  have k35 := hts (.fieldLink RX2 35 "RopeLine$Place" "cost" "I") (by decide +kernel)
  have hl : lv_has ls 4 [(0, .ref (ad 3)), (1, .int a1), (2, .int a2)] := hl
  unfold wX2_hisBarUnseen at hF
  refine lv_iconst (v := 5) hx hb dX2_hisBarUnseen_0 (by decide) ?_
  refine lv_istore_n (lv' := [(3, .int (5 : Int32)), (0, .ref (ad 3)), (1, .int a1), (2, .int a2)]) hx hb dX2_hisBarUnseen_1 rfl hl (by decide) rfl (fun ls hl => ?_)
  have key_2 : ∀ (x3_2 : Int32) (m2 : Mm), (lX2_hisBarUnseen_2 a1 a2 Q x3_2 m2) → Wc p l e ({ frames := 1, cells := 0, slots := 0, locals := 21 } : Room) s m args below meth c D cI cJ ad (MQ below (QiW D cI cJ ad Q) args s 0 0 (Fr ad)) 4 2 [(0, .ref (ad 3)), (1, .int a1), (2, .int a2), (3, .int x3_2)] m2 := by
    intro x3_2 m2 hL
    refine hL (fun x3_2 m2 => Wc p l e ({ frames := 1, cells := 0, slots := 0, locals := 21 } : Room) s m args below meth c D cI cJ ad (MQ below (QiW D cI cJ ad Q) args s 0 0 (Fr ad)) 4 2 [(0, .ref (ad 3)), (1, .int a1), (2, .int a2), (3, .int x3_2)] m2) ?_
    intro J_2 hJ_2 x3_2 m2 hF H locs ls hP hS hl
    unfold bX2_hisBarUnseen_2 at hF
    refine lv_iload_n hx hb dX2_hisBarUnseen_2 rfl (lv_at hl 3 rfl) ?_
    refine lv_if_le (tgt := 41) hx hb dX2_hisBarUnseen_3 (by decide) (fun c_1 => ?_) (fun c_1 => ?_)
    · have hF := hF.1 c_1
      refine lv_iconst (v := 0) hx hb dX2_hisBarUnseen_41 (by decide) ?_
      exact retI S hr hlocks hP hS hF dX2_hisBarUnseen_42
    · have hF := hF.2 c_1
      refine lv_aload_n hx hb dX2_hisBarUnseen_6 rfl (lv_at hl 0 rfl) ?_
      refine gF S hK hP i2 e_P rfl 1 (by decide) k15 f_P_worths dX2_hisBarUnseen_7 ?_
      refine lv_iload_n hx hb dX2_hisBarUnseen_10 rfl (lv_at hl 1 rfl) ?_
      refine goI (rSN (rest := []) S hK hP (ctX6_at l D cI cJ ad had 14 rfl a1 _ _ hF) ⟨va_cnB 2 hts ggX2_hisBarUnseen_X6_at rfl rfl rfl (hK.2 _ nw_RX2_41) (hts (.initialized RX6) (by decide +kernel)) hdS_X6_at ⟨Nat.le_of_ble_eq_true rfl, Nat.le_of_ble_eq_true rfl⟩, hts (.static yX6_at) (by decide +kernel), trivial⟩ rfl hl.1 rfl (Nat.le_of_ble_eq_true rfl) dX2_hisBarUnseen_11 ⟨Nat.zero_le _, Nat.zero_le _⟩) hS (fun _ h => h) (fun r_2 M_2 H locs hP hS hF => ?_)
      refine lv_iload_n hx hb dX2_hisBarUnseen_14 rfl (lv_at hl 2 rfl) ?_
      refine lv_isub hx hb dX2_hisBarUnseen_15 ?_
      refine lv_aload_n hx hb dX2_hisBarUnseen_16 rfl (lv_at hl 0 rfl) ?_
      refine gF S hK hP i2 e_P rfl 4 (by decide) k31 f_P_served dX2_hisBarUnseen_17 ?_
      refine lv_imul hx hb dX2_hisBarUnseen_20 ?_
      refine lv_aload_n hx hb dX2_hisBarUnseen_21 rfl (lv_at hl 0 rfl) ?_
      refine gF S hK hP i2 e_P rfl 5 (by decide) k35 f_P_cost dX2_hisBarUnseen_22 ?_
      refine lv_bipush (v := 12) hx hb dX2_hisBarUnseen_25 (by decide) ?_
      refine lv_imul hx hb dX2_hisBarUnseen_27 ?_
      refine lv_iload_n hx hb dX2_hisBarUnseen_28 rfl (lv_at hl 3 rfl) ?_
      refine lv_imul hx hb dX2_hisBarUnseen_29 ?_
      refine lv_icmp_lt (tgt := 35) hx hb dX2_hisBarUnseen_30 (by decide) (fun c_3 => ?_) (fun c_3 => ?_)
      · have hF := hF.1 c_3
        refine lv_iinc (v := (x3_2 + (-1))) (lv' := [(3, .int (x3_2 + (-1))), (0, .ref (ad 3)), (1, .int a1), (2, .int a2)]) hx hb dX2_hisBarUnseen_35 hl (k := 3) rfl rfl (by decide) rfl (fun ls hl => ?_)
        refine lv_goto (tgt := 2) hx hb dX2_hisBarUnseen_38 (by decide) ?_
        exact hJ_2 _ _ hF _ _ _ hP hS (lv_sub hl [1, 2, 3, 0] rfl)
      · have hF := hF.2 c_3
        refine lv_iload_n hx hb dX2_hisBarUnseen_33 rfl (lv_at hl 3 rfl) ?_
        exact retI S hr hlocks hP hS hF dX2_hisBarUnseen_34
  exact key_2 _ _ hF _ _ _ hP hS (lv_sub hl [1, 2, 3, 0] rfl)
def wX2_minutesAsTold (a1 : Int32) (Q : Int32 → Mm → Prop) (M : Mm) : Prop := (((1 : Int32) ≤ (gi M 12) → (((1 : Int32) ≤ (gi M 16) → (((1 : Int32) ≤ ((gi M 12) * (gi M 16)) → (¬ ((gi M 12) * (gi M 16)) = 0 ∧ (Q (if (0 : Int32) < (((gi M 16) * (((((12 : Int32) * (a1 + (1 : Int32))) + ((gi M 12) * (gi M 16))) - (1 : Int32)) / ((gi M 12) * (gi M 16)))) + (gi M 17)) then (((gi M 16) * (((((12 : Int32) * (a1 + (1 : Int32))) + ((gi M 12) * (gi M 16))) - (1 : Int32)) / ((gi M 12) * (gi M 16)))) + (gi M 17)) else (0 : Int32)) M))) ∧ (¬ (1 : Int32) ≤ ((gi M 12) * (gi M 16)) → (Q (0 : Int32) M)))) ∧ (¬ (1 : Int32) ≤ (gi M 16) → (¬ (gi M 12) = 0 ∧ (Q (((12 : Int32) * (a1 + (1 : Int32))) / (gi M 12)) M))))) ∧ (¬ (1 : Int32) ≤ (gi M 12) → (Q (0 : Int32) M)))
set_option maxHeartbeats 4000000 in
set_option maxRecDepth 100000 in
theorem ctX2_minutesAsTold (l : Launch) (D : va_G) (cI cJ : ClassId) (ad : Nat → Nat) (had : inj54 ad) (a1 : Int32) (Q : Int32 → Mm → Prop) (M : Mm) (hF : wX2_minutesAsTold a1 Q M) : Met l yX2_minutesAsTold wsX2_minutesAsTold ({ frames := 1, cells := 0, slots := 0, locals := 21 } : Room) (PcW D cI cJ ad M [.ref (ad 3), .int a1]) (QiW D cI cJ ad Q) 0 0 (Fr ad) := by
  refine entW (y := yX2_minutesAsTold) (ret := some .int) (maxL := 4) (plainFor_of_name (by decide)) rfl (Nat.le_of_ble_eq_true rfl) ?_
  intro p e s m args below meth c ls S hK hr hlocks hP hS hl
  have hx := S.1
  have hb := S.2.1
  have hown := S.2.2.2.1
  have hts := S.2.2.2.2
  have i2 : ∀ w ∈ wsX20, w ∈ wsX2_minutesAsTold := by decide +kernel
  have k31 := hts (.fieldLink RX2 31 "RopeLine$Place" "served" "I") (by decide +kernel)
  have k53 := hts (.fieldLink RX2 53 "RopeLine$Place" "step" "I") (by decide +kernel)
  have k56 := hts (.fieldLink RX2 56 "RopeLine$Place" "lie" "I") (by decide +kernel)
  have hl : lv_has ls 4 [(0, .ref (ad 3)), (1, .int a1)] := hl
  unfold wX2_minutesAsTold at hF
  refine lv_bipush (v := 12) hx hb dX2_minutesAsTold_0 (by decide) ?_
  refine lv_iload_n hx hb dX2_minutesAsTold_2 rfl (lv_at hl 1 rfl) ?_
  refine lv_iconst (v := 1) hx hb dX2_minutesAsTold_3 (by decide) ?_
  refine lv_iadd hx hb dX2_minutesAsTold_4 ?_
  refine lv_imul hx hb dX2_minutesAsTold_5 ?_
  refine lv_istore_n (lv' := [(2, .int ((12 : Int32) * (a1 + (1 : Int32)))), (0, .ref (ad 3)), (1, .int a1)]) hx hb dX2_minutesAsTold_6 rfl hl (by decide) rfl (fun ls hl => ?_)
  refine lv_aload_n hx hb dX2_minutesAsTold_7 rfl (lv_at hl 1 rfl) ?_
  refine gF S hK hP i2 e_P rfl 4 (by decide) k31 f_P_served dX2_minutesAsTold_8 ?_
  refine lv_iconst (v := 1) hx hb dX2_minutesAsTold_11 (by decide) ?_
  refine lv_icmp_ge (tgt := 17) hx hb dX2_minutesAsTold_12 (by decide) (fun c_1 => ?_) (fun c_1 => ?_)
  · have hF := hF.1 c_1
    refine lv_aload_n hx hb dX2_minutesAsTold_17 rfl (lv_at hl 1 rfl) ?_
    refine gF S hK hP i2 e_P rfl 8 (by decide) k53 f_P_step dX2_minutesAsTold_18 ?_
    refine lv_iconst (v := 1) hx hb dX2_minutesAsTold_21 (by decide) ?_
    refine lv_icmp_ge (tgt := 32) hx hb dX2_minutesAsTold_22 (by decide) (fun c_2 => ?_) (fun c_2 => ?_)
    · have hF := hF.1 c_2
      refine lv_aload_n hx hb dX2_minutesAsTold_32 rfl (lv_at hl 1 rfl) ?_
      refine gF S hK hP i2 e_P rfl 4 (by decide) k31 f_P_served dX2_minutesAsTold_33 ?_
      refine lv_aload_n hx hb dX2_minutesAsTold_36 rfl (lv_at hl 1 rfl) ?_
      refine gF S hK hP i2 e_P rfl 8 (by decide) k53 f_P_step dX2_minutesAsTold_37 ?_
      refine lv_imul hx hb dX2_minutesAsTold_40 ?_
      refine lv_istore_n (lv' := [(3, .int ((gi M 12) * (gi M 16))), (2, .int ((12 : Int32) * (a1 + (1 : Int32)))), (0, .ref (ad 3)), (1, .int a1)]) hx hb dX2_minutesAsTold_41 rfl hl (by decide) rfl (fun ls hl => ?_)
      refine lv_iload_n hx hb dX2_minutesAsTold_42 rfl (lv_at hl 0 rfl) ?_
      refine lv_iconst (v := 1) hx hb dX2_minutesAsTold_43 (by decide) ?_
      refine lv_icmp_ge (tgt := 49) hx hb dX2_minutesAsTold_44 (by decide) (fun c_3 => ?_) (fun c_3 => ?_)
      · have hF := hF.1 c_3
        refine lv_iconst (v := 0) hx hb dX2_minutesAsTold_49 (by decide) ?_
        refine lv_aload_n hx hb dX2_minutesAsTold_50 rfl (lv_at hl 2 rfl) ?_
        refine gF S hK hP i2 e_P rfl 8 (by decide) k53 f_P_step dX2_minutesAsTold_51 ?_
        refine lv_iload_n hx hb dX2_minutesAsTold_54 rfl (lv_at hl 1 rfl) ?_
        refine lv_iload_n hx hb dX2_minutesAsTold_55 rfl (lv_at hl 0 rfl) ?_
        refine lv_iadd hx hb dX2_minutesAsTold_56 ?_
        refine lv_iconst (v := 1) hx hb dX2_minutesAsTold_57 (by decide) ?_
        refine lv_isub hx hb dX2_minutesAsTold_58 ?_
        refine lv_iload_n hx hb dX2_minutesAsTold_59 rfl (lv_at hl 0 rfl) ?_
        obtain ⟨hz_4, hF⟩ := hF
        refine lv_idiv hx hb dX2_minutesAsTold_60 hz_4 ?_
        refine lv_imul hx hb dX2_minutesAsTold_61 ?_
        refine lv_aload_n hx hb dX2_minutesAsTold_62 rfl (lv_at hl 2 rfl) ?_
        refine gF S hK hP i2 e_P rfl 9 (by decide) k56 f_P_lie dX2_minutesAsTold_63 ?_
        refine lv_iadd hx hb dX2_minutesAsTold_66 ?_
        refine va_mmax hx hb (S.2.2.1.trans hl.1.symm) hown (hts (.methodLink RX2 63 Lib.Math.max.name) (by decide +kernel)) (hts (.static Lib.Math.max.name) (by decide +kernel)) (hts (.initialized "java/lang/Math") (by decide +kernel)) (hts (.code Lib.Math.max.name Lib.Math.max.code 2 (some .int)) (by decide +kernel)) (Nat.le_of_ble_eq_true rfl) (Nat.le_of_ble_eq_true rfl) (Nat.zero_le _) (Nat.zero_le _) dX2_minutesAsTold_67 ?_
        exact retI S hr hlocks hP hS hF dX2_minutesAsTold_70
      · have hF := hF.2 c_3
        refine lv_iconst (v := 0) hx hb dX2_minutesAsTold_47 (by decide) ?_
        exact retI S hr hlocks hP hS hF dX2_minutesAsTold_48
    · have hF := hF.2 c_2
      refine lv_iload_n hx hb dX2_minutesAsTold_25 rfl (lv_at hl 0 rfl) ?_
      refine lv_aload_n hx hb dX2_minutesAsTold_26 rfl (lv_at hl 1 rfl) ?_
      refine gF S hK hP i2 e_P rfl 4 (by decide) k31 f_P_served dX2_minutesAsTold_27 ?_
      obtain ⟨hz_5, hF⟩ := hF
      refine lv_idiv hx hb dX2_minutesAsTold_30 hz_5 ?_
      exact retI S hr hlocks hP hS hF dX2_minutesAsTold_31
  · have hF := hF.2 c_1
    refine lv_iconst (v := 0) hx hb dX2_minutesAsTold_15 (by decide) ?_
    exact retI S hr hlocks hP hS hF dX2_minutesAsTold_16
def bX2_hisBar_19 (a1 : Int32) (Q : Int32 → Mm → Prop) (J_19 : Int32 → Mm → Prop) (x2_19 : Int32) (m19 : Mm) : Prop := ((x2_19 ≤ 0 → (Q (0 : Int32) m19)) ∧ (¬ x2_19 ≤ 0 → (wX6_at 14 a1 (fun r_3 M_3 => (wX2_minutesAsTold (x2_19 - (1 : Int32)) (fun r_4 M_4 => (((r_3 - (gi M_3 15)) < ((gi M_3 13) * r_4) → (J_19 (x2_19 + (-1)) M_4)) ∧ (¬ (r_3 - (gi M_3 15)) < ((gi M_3 13) * r_4) → (Q x2_19 M_4)))) M_3)) m19)))
def lX2_hisBar_19 (a1 : Int32) (Q : Int32 → Mm → Prop) (x2_19 : Int32) (m19 : Mm) : Prop := ∀ I : Int32 → Mm → Prop, (∀ J : Int32 → Mm → Prop, (∀ (x2_19 : Int32) (m : Mm), J x2_19 m → I x2_19 m) → ∀ (x2_19 : Int32) (m : Mm), bX2_hisBar_19 a1 Q J x2_19 m → I x2_19 m) → I x2_19 m19
theorem lX2_hisBar_19_mk (a1 : Int32) (Q : Int32 → Mm → Prop) (x2_19 : Int32) (m19 : Mm) (h : bX2_hisBar_19 a1 Q (lX2_hisBar_19 a1 Q) x2_19 m19) : lX2_hisBar_19 a1 Q x2_19 m19 := fun I hI => hI (lX2_hisBar_19 a1 Q) (fun _ _ q => q I hI) _ _ h
def wX2_hisBar (a1 : Int32) (Q : Int32 → Mm → Prop) (M : Mm) : Prop := (((gi M 16) = 0 → (wX2_hisBarUnseen a1 (gi M 15) (fun r_6 M_6 => (Q r_6 M_6)) M)) ∧ (¬ (gi M 16) = 0 → (lX2_hisBar_19 a1 Q (5 : Int32) M)))
set_option maxHeartbeats 4000000 in
set_option maxRecDepth 100000 in
theorem ctX2_hisBar (l : Launch) (D : va_G) (cI cJ : ClassId) (ad : Nat → Nat) (had : inj54 ad) (a1 : Int32) (Q : Int32 → Mm → Prop) (M : Mm) (hF : wX2_hisBar a1 Q M) : Met l yX2_hisBar wsX2_hisBar ({ frames := 2, cells := 0, slots := 0, locals := 44 } : Room) (PcW D cI cJ ad M [.ref (ad 3), .int a1]) (QiW D cI cJ ad Q) 0 0 (Fr ad) := by
  refine entW (y := yX2_hisBar) (ret := some .int) (maxL := 3) (plainFor_of_name (by decide)) rfl (Nat.le_of_ble_eq_true rfl) ?_
  intro p e s m args below meth c ls S hK hr hlocks hP hS hl
  have hx := S.1
  have hb := S.2.1
  have hown := S.2.2.2.1
  have hts := S.2.2.2.2
  have i2 : ∀ w ∈ wsX20, w ∈ wsX2_hisBar := by decide +kernel
  have k53 := hts (.fieldLink RX2 53 "RopeLine$Place" "step" "I") (by decide +kernel)
  have k15 := hts (.fieldLink RX2 15 "RopeLine$Place" "worths" "[I") (by decide +kernel)
  have k50 := hts (.fieldLink RX2 50 "RopeLine$Place" "toll" "I") (by decide +kernel)
  have k35 := hts (.fieldLink RX2 35 "RopeLine$Place" "cost" "I") (by decide +kernel)
  have hl : lv_has ls 3 [(0, .ref (ad 3)), (1, .int a1)] := hl
  unfold wX2_hisBar at hF
  refine lv_aload_n hx hb dX2_hisBar_0 rfl (lv_at hl 0 rfl) ?_
  refine gF S hK hP i2 e_P rfl 8 (by decide) k53 f_P_step dX2_hisBar_1 ?_
  refine lv_if_ne (tgt := 17) hx hb dX2_hisBar_4 (by decide) (fun c_1 => ?_) (fun c_1 => ?_)
  · have hF := hF.2 c_1
    refine lv_iconst (v := 5) hx hb dX2_hisBar_17 (by decide) ?_
    refine lv_istore_n (lv' := [(2, .int (5 : Int32)), (0, .ref (ad 3)), (1, .int a1)]) hx hb dX2_hisBar_18 rfl hl (by decide) rfl (fun ls hl => ?_)
    have key_19 : ∀ (x2_19 : Int32) (m19 : Mm), (lX2_hisBar_19 a1 Q x2_19 m19) → Wc p l e ({ frames := 2, cells := 0, slots := 0, locals := 44 } : Room) s m args below meth c D cI cJ ad (MQ below (QiW D cI cJ ad Q) args s 0 0 (Fr ad)) 3 19 [(0, .ref (ad 3)), (1, .int a1), (2, .int x2_19)] m19 := by
      intro x2_19 m19 hL
      refine hL (fun x2_19 m19 => Wc p l e ({ frames := 2, cells := 0, slots := 0, locals := 44 } : Room) s m args below meth c D cI cJ ad (MQ below (QiW D cI cJ ad Q) args s 0 0 (Fr ad)) 3 19 [(0, .ref (ad 3)), (1, .int a1), (2, .int x2_19)] m19) ?_
      intro J_19 hJ_19 x2_19 m19 hF H locs ls hP hS hl
      unfold bX2_hisBar_19 at hF
      refine lv_iload_n hx hb dX2_hisBar_19 rfl (lv_at hl 2 rfl) ?_
      refine lv_if_le (tgt := 59) hx hb dX2_hisBar_20 (by decide) (fun c_2 => ?_) (fun c_2 => ?_)
      · have hF := hF.1 c_2
        refine lv_iconst (v := 0) hx hb dX2_hisBar_59 (by decide) ?_
        exact retI S hr hlocks hP hS hF dX2_hisBar_60
      · have hF := hF.2 c_2
        refine lv_aload_n hx hb dX2_hisBar_23 rfl (lv_at hl 0 rfl) ?_
        refine gF S hK hP i2 e_P rfl 1 (by decide) k15 f_P_worths dX2_hisBar_24 ?_
        refine lv_iload_n hx hb dX2_hisBar_27 rfl (lv_at hl 1 rfl) ?_
        refine goI (rSN (rest := []) S hK hP (ctX6_at l D cI cJ ad had 14 rfl a1 _ _ hF) ⟨va_cnB 2 hts ggX2_hisBar_X6_at rfl rfl rfl (hK.2 _ nw_RX2_41) (hts (.initialized RX6) (by decide +kernel)) hdS_X6_at ⟨Nat.le_of_ble_eq_true rfl, Nat.le_of_ble_eq_true rfl⟩, hts (.static yX6_at) (by decide +kernel), trivial⟩ rfl hl.1 rfl (Nat.le_of_ble_eq_true rfl) dX2_hisBar_28 ⟨Nat.zero_le _, Nat.zero_le _⟩) hS (fun _ h => h) (fun r_3 M_3 H locs hP hS hF => ?_)
        refine lv_aload_n hx hb dX2_hisBar_31 rfl (lv_at hl 0 rfl) ?_
        refine gF S hK hP i2 e_P rfl 7 (by decide) k50 f_P_toll dX2_hisBar_32 ?_
        refine lv_isub hx hb dX2_hisBar_35 ?_
        refine lv_aload_n hx hb dX2_hisBar_36 rfl (lv_at hl 0 rfl) ?_
        refine gF S hK hP i2 e_P rfl 5 (by decide) k35 f_P_cost dX2_hisBar_37 ?_
        refine lv_aload_n hx hb dX2_hisBar_40 rfl (lv_at hl 0 rfl) ?_
        refine lv_iload_n hx hb dX2_hisBar_41 rfl (lv_at hl 2 rfl) ?_
        refine lv_iconst (v := 1) hx hb dX2_hisBar_42 (by decide) ?_
        refine lv_isub hx hb dX2_hisBar_43 ?_
        refine goI (rV (rest := [.int (gi M_3 13), .int (r_3 - (gi M_3 15))]) S hK hP (ctX2_minutesAsTold l D cI cJ ad had (x2_19 - (1 : Int32)) _ _ hF) (cwV 1 hts gX2_hisBar_X2_minutesAsTold rfl rfl rfl hdV_X2_minutesAsTold ⟨Nat.le_of_ble_eq_true rfl, Nat.le_of_ble_eq_true rfl⟩) e_P rfl rfl hl.1 rfl (Nat.le_of_ble_eq_true rfl) dX2_hisBar_44 ⟨Nat.zero_le _, Nat.zero_le _⟩) hS (fun _ h => h) (fun r_4 M_4 H locs hP hS hF => ?_)
        refine lv_imul hx hb dX2_hisBar_47 ?_
        refine lv_icmp_lt (tgt := 53) hx hb dX2_hisBar_48 (by decide) (fun c_5 => ?_) (fun c_5 => ?_)
        · have hF := hF.1 c_5
          refine lv_iinc (v := (x2_19 + (-1))) (lv' := [(2, .int (x2_19 + (-1))), (0, .ref (ad 3)), (1, .int a1)]) hx hb dX2_hisBar_53 hl (k := 2) rfl rfl (by decide) rfl (fun ls hl => ?_)
          refine lv_goto (tgt := 19) hx hb dX2_hisBar_56 (by decide) ?_
          exact hJ_19 _ _ hF _ _ _ hP hS (lv_sub hl [1, 2, 0] rfl)
        · have hF := hF.2 c_5
          refine lv_iload_n hx hb dX2_hisBar_51 rfl (lv_at hl 2 rfl) ?_
          exact retI S hr hlocks hP hS hF dX2_hisBar_52
    exact key_19 _ _ hF _ _ _ hP hS (lv_sub hl [1, 2, 0] rfl)
  · have hF := hF.1 c_1
    refine lv_aload_n hx hb dX2_hisBar_7 rfl (lv_at hl 0 rfl) ?_
    refine lv_iload_n hx hb dX2_hisBar_8 rfl (lv_at hl 1 rfl) ?_
    refine lv_aload_n hx hb dX2_hisBar_9 rfl (lv_at hl 0 rfl) ?_
    refine gF S hK hP i2 e_P rfl 7 (by decide) k50 f_P_toll dX2_hisBar_10 ?_
    refine goI (rV (rest := []) S hK hP (ctX2_hisBarUnseen l D cI cJ ad had a1 (gi M 15) _ _ hF) (cwV 2 hts gX2_hisBar_X2_hisBarUnseen rfl rfl rfl hdV_X2_hisBarUnseen ⟨Nat.le_of_ble_eq_true rfl, Nat.le_of_ble_eq_true rfl⟩) e_P rfl rfl hl.1 rfl (Nat.le_of_ble_eq_true rfl) dX2_hisBar_13 ⟨Nat.zero_le _, Nat.zero_le _⟩) hS (fun _ h => h) (fun r_6 M_6 H locs hP hS hF => ?_)
    exact retI S hr hlocks hP hS hF dX2_hisBar_16
def bX6_rowsOf_4 (a0 : Int32) (Q : Int32 → Mm → Prop) (J_4 : Int32 → Int32 → Mm → Prop) (x1_4 : Int32) (x2_4 : Int32) (m4 : Mm) : Prop := ((a0 ≤ x2_4 → (Q x1_4 m4)) ∧ (¬ a0 ≤ x2_4 → (J_4 (x1_4 * (6 : Int32)) (x2_4 + 1) m4)))
def lX6_rowsOf_4 (a0 : Int32) (Q : Int32 → Mm → Prop) (x1_4 : Int32) (x2_4 : Int32) (m4 : Mm) : Prop := ∀ I : Int32 → Int32 → Mm → Prop, (∀ J : Int32 → Int32 → Mm → Prop, (∀ (x1_4 : Int32) (x2_4 : Int32) (m : Mm), J x1_4 x2_4 m → I x1_4 x2_4 m) → ∀ (x1_4 : Int32) (x2_4 : Int32) (m : Mm), bX6_rowsOf_4 a0 Q J x1_4 x2_4 m → I x1_4 x2_4 m) → I x1_4 x2_4 m4
theorem lX6_rowsOf_4_mk (a0 : Int32) (Q : Int32 → Mm → Prop) (x1_4 : Int32) (x2_4 : Int32) (m4 : Mm) (h : bX6_rowsOf_4 a0 Q (lX6_rowsOf_4 a0 Q) x1_4 x2_4 m4) : lX6_rowsOf_4 a0 Q x1_4 x2_4 m4 := fun I hI => hI (lX6_rowsOf_4 a0 Q) (fun _ _ _ q => q I hI) _ _ _ h
def wX6_rowsOf (a0 : Int32) (Q : Int32 → Mm → Prop) (M : Mm) : Prop := (lX6_rowsOf_4 a0 Q (1 : Int32) (0 : Int32) M)
set_option maxHeartbeats 4000000 in
set_option maxRecDepth 100000 in
theorem ctX6_rowsOf (l : Launch) (D : va_G) (cI cJ : ClassId) (ad : Nat → Nat) (had : inj54 ad) (a0 : Int32) (Q : Int32 → Mm → Prop) (M : Mm) (hF : wX6_rowsOf a0 Q M) : Met l yX6_rowsOf wsX6_rowsOf ({ frames := 0, cells := 0, slots := 0, locals := 0 } : Room) (PcW D cI cJ ad M [.int a0]) (QiW D cI cJ ad Q) 0 0 (Fr ad) := by
  refine entW (y := yX6_rowsOf) (ret := some .int) (maxL := 3) (plainFor_of_name (by decide)) rfl (Nat.le_of_ble_eq_true rfl) ?_
  intro p e s m args below meth c ls S hK hr hlocks hP hS hl
  have hx := S.1
  have hb := S.2.1
  have hown := S.2.2.2.1
  have hts := S.2.2.2.2
  have hl : lv_has ls 3 [(0, .int a0)] := hl
  unfold wX6_rowsOf at hF
  refine lv_iconst (v := 1) hx hb dX6_rowsOf_0 (by decide) ?_
  refine lv_istore_n (lv' := [(1, .int (1 : Int32)), (0, .int a0)]) hx hb dX6_rowsOf_1 rfl hl (by decide) rfl (fun ls hl => ?_)
  refine lv_iconst (v := 0) hx hb dX6_rowsOf_2 (by decide) ?_
  refine lv_istore_n (lv' := [(2, .int (0 : Int32)), (1, .int (1 : Int32)), (0, .int a0)]) hx hb dX6_rowsOf_3 rfl hl (by decide) rfl (fun ls hl => ?_)
  have key_4 : ∀ (x1_4 : Int32) (x2_4 : Int32) (m4 : Mm), (lX6_rowsOf_4 a0 Q x1_4 x2_4 m4) → Wc p l e ({ frames := 0, cells := 0, slots := 0, locals := 0 } : Room) s m args below meth c D cI cJ ad (MQ below (QiW D cI cJ ad Q) args s 0 0 (Fr ad)) 3 4 [(0, .int a0), (1, .int x1_4), (2, .int x2_4)] m4 := by
    intro x1_4 x2_4 m4 hL
    refine hL (fun x1_4 x2_4 m4 => Wc p l e ({ frames := 0, cells := 0, slots := 0, locals := 0 } : Room) s m args below meth c D cI cJ ad (MQ below (QiW D cI cJ ad Q) args s 0 0 (Fr ad)) 3 4 [(0, .int a0), (1, .int x1_4), (2, .int x2_4)] m4) ?_
    intro J_4 hJ_4 x1_4 x2_4 m4 hF H locs ls hP hS hl
    unfold bX6_rowsOf_4 at hF
    refine lv_iload_n hx hb dX6_rowsOf_4 rfl (lv_at hl 2 rfl) ?_
    refine lv_iload_n hx hb dX6_rowsOf_5 rfl (lv_at hl 0 rfl) ?_
    refine lv_icmp_ge (tgt := 20) hx hb dX6_rowsOf_6 (by decide) (fun c_1 => ?_) (fun c_1 => ?_)
    · have hF := hF.1 c_1
      refine lv_iload_n hx hb dX6_rowsOf_20 rfl (lv_at hl 1 rfl) ?_
      exact retI S hr hlocks hP hS hF dX6_rowsOf_21
    · have hF := hF.2 c_1
      refine lv_iload_n hx hb dX6_rowsOf_9 rfl (lv_at hl 1 rfl) ?_
      refine lv_bipush (v := 6) hx hb dX6_rowsOf_10 (by decide) ?_
      refine lv_imul hx hb dX6_rowsOf_12 ?_
      refine lv_istore_n (lv' := [(1, .int (x1_4 * (6 : Int32))), (0, .int a0), (2, .int x2_4)]) hx hb dX6_rowsOf_13 rfl hl (by decide) rfl (fun ls hl => ?_)
      refine lv_iinc (v := (x2_4 + 1)) (lv' := [(2, .int (x2_4 + 1)), (1, .int (x1_4 * (6 : Int32))), (0, .int a0)]) hx hb dX6_rowsOf_14 hl (k := 2) rfl rfl (by decide) rfl (fun ls hl => ?_)
      refine lv_goto (tgt := 4) hx hb dX6_rowsOf_17 (by decide) ?_
      exact hJ_4 _ _ _ hF _ _ _ hP hS (lv_sub hl [2, 1, 0] rfl)
  exact key_4 _ _ _ hF _ _ _ hP hS (lv_sub hl [2, 1, 0] rfl)
def bX2_joining_5 (k1_ : Nat) (a2 : Int32) (Q : Int32 → Mm → Prop) (J_5 : Int32 → Int32 → Mm → Prop) (x3_5 : Int32) (x4_5 : Int32) (m5 : Mm) : Prop := (((gi m5 14) ≤ x4_5 → (Q x3_5 m5)) ∧ (¬ (gi m5 14) ≤ x4_5 → (wX6_at k1_ x4_5 (fun r_2 M_2 => ((r_2 ≤ a2 → (J_5 x3_5 (x4_5 + 1) M_2)) ∧ (¬ r_2 ≤ a2 → (wX6_at 13 x4_5 (fun r_4 M_4 => (J_5 (x3_5 + r_4) (x4_5 + 1) M_4)) M_2)))) m5)))
def lX2_joining_5 (k1_ : Nat) (a2 : Int32) (Q : Int32 → Mm → Prop) (x3_5 : Int32) (x4_5 : Int32) (m5 : Mm) : Prop := ∀ I : Int32 → Int32 → Mm → Prop, (∀ J : Int32 → Int32 → Mm → Prop, (∀ (x3_5 : Int32) (x4_5 : Int32) (m : Mm), J x3_5 x4_5 m → I x3_5 x4_5 m) → ∀ (x3_5 : Int32) (x4_5 : Int32) (m : Mm), bX2_joining_5 k1_ a2 Q J x3_5 x4_5 m → I x3_5 x4_5 m) → I x3_5 x4_5 m5
theorem lX2_joining_5_mk (k1_ : Nat) (a2 : Int32) (Q : Int32 → Mm → Prop) (x3_5 : Int32) (x4_5 : Int32) (m5 : Mm) (h : bX2_joining_5 k1_ a2 Q (lX2_joining_5 k1_ a2 Q) x3_5 x4_5 m5) : lX2_joining_5 k1_ a2 Q x3_5 x4_5 m5 := fun I hI => hI (lX2_joining_5 k1_ a2 Q) (fun _ _ _ q => q I hI) _ _ _ h
def wX2_joining (k1_ : Nat) (a2 : Int32) (Q : Int32 → Mm → Prop) (M : Mm) : Prop := (lX2_joining_5 k1_ a2 Q (0 : Int32) (0 : Int32) M)
set_option maxHeartbeats 4000000 in
set_option maxRecDepth 100000 in
theorem ctX2_joining (l : Launch) (D : va_G) (cI cJ : ClassId) (ad : Nat → Nat) (had : inj54 ad) (k1_ : Nat) (hk1_ : isA k1_ = true) (a2 : Int32) (Q : Int32 → Mm → Prop) (M : Mm) (hF : wX2_joining k1_ a2 Q M) : Met l yX2_joining wsX2_joining ({ frames := 1, cells := 0, slots := 0, locals := 21 } : Room) (PcW D cI cJ ad M [.ref (ad 3), .ref (ad k1_), .int a2]) (QiW D cI cJ ad Q) 0 0 (Fr ad) := by
  refine entW (y := yX2_joining) (ret := some .int) (maxL := 5) (plainFor_of_name (by decide)) rfl (Nat.le_of_ble_eq_true rfl) ?_
  intro p e s m args below meth c ls S hK hr hlocks hP hS hl
  have hx := S.1
  have hb := S.2.1
  have hown := S.2.2.2.1
  have hts := S.2.2.2.2
  have i2 : ∀ w ∈ wsX20, w ∈ wsX2_joining := by decide +kernel
  have k39 := hts (.fieldLink RX2 39 "RopeLine$Place" "sorts" "I") (by decide +kernel)
  have k9 := hts (.fieldLink RX2 9 "RopeLine$Place" "twelfths" "[I") (by decide +kernel)
  have hl : lv_has ls 5 [(0, .ref (ad 3)), (1, .ref (ad k1_)), (2, .int a2)] := hl
  unfold wX2_joining at hF
  refine lv_iconst (v := 0) hx hb dX2_joining_0 (by decide) ?_
  refine lv_istore_n (lv' := [(3, .int (0 : Int32)), (0, .ref (ad 3)), (1, .ref (ad k1_)), (2, .int a2)]) hx hb dX2_joining_1 rfl hl (by decide) rfl (fun ls hl => ?_)
  refine lv_iconst (v := 0) hx hb dX2_joining_2 (by decide) ?_
  refine lv_istore (lv' := [(4, .int (0 : Int32)), (3, .int (0 : Int32)), (0, .ref (ad 3)), (1, .ref (ad k1_)), (2, .int a2)]) hx hb dX2_joining_3 hl (by decide) rfl (fun ls hl => ?_)
  have key_5 : ∀ (x3_5 : Int32) (x4_5 : Int32) (m5 : Mm), (lX2_joining_5 k1_ a2 Q x3_5 x4_5 m5) → Wc p l e ({ frames := 1, cells := 0, slots := 0, locals := 21 } : Room) s m args below meth c D cI cJ ad (MQ below (QiW D cI cJ ad Q) args s 0 0 (Fr ad)) 5 5 [(0, .ref (ad 3)), (1, .ref (ad k1_)), (2, .int a2), (3, .int x3_5), (4, .int x4_5)] m5 := by
    intro x3_5 x4_5 m5 hL
    refine hL (fun x3_5 x4_5 m5 => Wc p l e ({ frames := 1, cells := 0, slots := 0, locals := 21 } : Room) s m args below meth c D cI cJ ad (MQ below (QiW D cI cJ ad Q) args s 0 0 (Fr ad)) 5 5 [(0, .ref (ad 3)), (1, .ref (ad k1_)), (2, .int a2), (3, .int x3_5), (4, .int x4_5)] m5) ?_
    intro J_5 hJ_5 x3_5 x4_5 m5 hF H locs ls hP hS hl
    unfold bX2_joining_5 at hF
    refine lv_iload hx hb dX2_joining_5 (lv_at hl 4 rfl) ?_
    refine lv_aload_n hx hb dX2_joining_7 rfl (lv_at hl 0 rfl) ?_
    refine gF S hK hP i2 e_P rfl 6 (by decide) k39 f_P_sorts dX2_joining_8 ?_
    refine lv_icmp_ge (tgt := 42) hx hb dX2_joining_11 (by decide) (fun c_1 => ?_) (fun c_1 => ?_)
    · have hF := hF.1 c_1
      refine lv_iload_n hx hb dX2_joining_42 rfl (lv_at hl 3 rfl) ?_
      exact retI S hr hlocks hP hS hF dX2_joining_43
    · have hF := hF.2 c_1
      refine lv_aload_n hx hb dX2_joining_14 rfl (lv_at hl 1 rfl) ?_
      refine lv_iload hx hb dX2_joining_15 (lv_at hl 4 rfl) ?_
      refine goI (rSN (rest := []) S hK hP (ctX6_at l D cI cJ ad had k1_ hk1_ x4_5 _ _ hF) ⟨va_cnB 2 hts ggX2_joining_X6_at rfl rfl rfl (hK.2 _ nw_RX2_41) (hts (.initialized RX6) (by decide +kernel)) hdS_X6_at ⟨Nat.le_of_ble_eq_true rfl, Nat.le_of_ble_eq_true rfl⟩, hts (.static yX6_at) (by decide +kernel), trivial⟩ rfl hl.1 rfl (Nat.le_of_ble_eq_true rfl) dX2_joining_17 ⟨Nat.zero_le _, Nat.zero_le _⟩) hS (fun _ h => h) (fun r_2 M_2 H locs hP hS hF => ?_)
      refine lv_iload_n hx hb dX2_joining_20 rfl (lv_at hl 2 rfl) ?_
      refine lv_icmp_le (tgt := 36) hx hb dX2_joining_21 (by decide) (fun c_3 => ?_) (fun c_3 => ?_)
      · have hF := hF.1 c_3
        refine lv_iinc (v := (x4_5 + 1)) (lv' := [(4, .int (x4_5 + 1)), (0, .ref (ad 3)), (1, .ref (ad k1_)), (2, .int a2), (3, .int x3_5)]) hx hb dX2_joining_36 hl (k := 4) rfl rfl (by decide) rfl (fun ls hl => ?_)
        refine lv_goto (tgt := 5) hx hb dX2_joining_39 (by decide) ?_
        exact hJ_5 _ _ _ hF _ _ _ hP hS (lv_sub hl [1, 2, 3, 4, 0] rfl)
      · have hF := hF.2 c_3
        refine lv_iload_n hx hb dX2_joining_24 rfl (lv_at hl 3 rfl) ?_
        refine lv_aload_n hx hb dX2_joining_25 rfl (lv_at hl 0 rfl) ?_
        refine gF S hK hP i2 e_P rfl 0 (by decide) k9 f_P_twelfths dX2_joining_26 ?_
        refine lv_iload hx hb dX2_joining_29 (lv_at hl 4 rfl) ?_
        refine goI (rSN (rest := [.int x3_5]) S hK hP (ctX6_at l D cI cJ ad had 13 rfl x4_5 _ _ hF) ⟨va_cnB 2 hts ggX2_joining_X6_at rfl rfl rfl (hK.2 _ nw_RX2_41) (hts (.initialized RX6) (by decide +kernel)) hdS_X6_at ⟨Nat.le_of_ble_eq_true rfl, Nat.le_of_ble_eq_true rfl⟩, hts (.static yX6_at) (by decide +kernel), trivial⟩ rfl hl.1 rfl (Nat.le_of_ble_eq_true rfl) dX2_joining_31 ⟨Nat.zero_le _, Nat.zero_le _⟩) hS (fun _ h => h) (fun r_4 M_4 H locs hP hS hF => ?_)
        refine lv_iadd hx hb dX2_joining_34 ?_
        refine lv_istore_n (lv' := [(3, .int (x3_5 + r_4)), (0, .ref (ad 3)), (1, .ref (ad k1_)), (2, .int a2), (4, .int x4_5)]) hx hb dX2_joining_35 rfl hl (by decide) rfl (fun ls hl => ?_)
        refine lv_iinc (v := (x4_5 + 1)) (lv' := [(4, .int (x4_5 + 1)), (3, .int (x3_5 + r_4)), (0, .ref (ad 3)), (1, .ref (ad k1_)), (2, .int a2)]) hx hb dX2_joining_36 hl (k := 4) rfl rfl (by decide) rfl (fun ls hl => ?_)
        refine lv_goto (tgt := 5) hx hb dX2_joining_39 (by decide) ?_
        exact hJ_5 _ _ _ hF _ _ _ hP hS (lv_sub hl [2, 3, 4, 1, 0] rfl)
  exact key_5 _ _ _ hF _ _ _ hP hS (lv_sub hl [2, 3, 4, 1, 0] rfl)
def wX6_set_ (k0_ : Nat) (a1 : Int32) (a2 : Int64) (Q : Mm → Prop) (M : Mm) : Prop := ((a1 < 0 → (Q M)) ∧ (¬ a1 < 0 → (((Int32.ofNat (lenA k0_)) ≤ a1 → (Q M)) ∧ (¬ (Int32.ofNat (lenA k0_)) ≤ a1 → (vp_in a1 (lenA k0_) ∧ (∀ M_3 : Mm, M_3 = (sb M k0_ (vp_updL (gb M k0_) a1.toNatClampNeg a2)) → (Q M_3)))))))
set_option maxHeartbeats 4000000 in
set_option maxRecDepth 100000 in
theorem ctX6_set_ (l : Launch) (D : va_G) (cI cJ : ClassId) (ad : Nat → Nat) (had : inj54 ad) (k0_ : Nat) (hk0_ : isB k0_ = true) (a1 : Int32) (a2 : Int64) (Q : Mm → Prop) (M : Mm) (hF : wX6_set_ k0_ a1 a2 Q M) : Met l yX6_set_ wsX6_set_ ({ frames := 0, cells := 0, slots := 0, locals := 0 } : Room) (PcW D cI cJ ad M [.ref (ad k0_), .int a1, .long a2]) (QvW D cI cJ ad Q) 0 0 (Fr ad) := by
  refine entW (y := yX6_set_) (ret := none) (maxL := 4) (plainFor_of_name (by decide)) rfl (Nat.le_of_ble_eq_true rfl) ?_
  intro p e s m args below meth c ls S hK hr hlocks hP hS hl
  have hx := S.1
  have hb := S.2.1
  have hown := S.2.2.2.1
  have hts := S.2.2.2.2
  have hl : lv_has ls 4 [(0, .ref (ad k0_)), (1, .int a1), (2, .long a2)] := hl
  unfold wX6_set_ at hF
  refine lv_iload_n hx hb dX6_set__0 rfl (lv_at hl 1 rfl) ?_
  refine lv_if_lt (tgt := 14) hx hb dX6_set__1 (by decide) (fun c_1 => ?_) (fun c_1 => ?_)
  · have hF := hF.1 c_1
    exact retV S hr hlocks hP hS hF dX6_set__14
  · have hF := hF.2 c_1
    refine lv_iload_n hx hb dX6_set__4 rfl (lv_at hl 1 rfl) ?_
    refine lv_aload_n hx hb dX6_set__5 rfl (lv_at hl 0 rfl) ?_
    refine alB S hK hP hk0_ dX6_set__6 ?_
    refine lv_icmp_ge (tgt := 14) hx hb dX6_set__7 (by decide) (fun c_2 => ?_) (fun c_2 => ?_)
    · have hF := hF.1 c_2
      exact retV S hr hlocks hP hS hF dX6_set__14
    · have hF := hF.2 c_2
      refine lv_aload_n hx hb dX6_set__10 rfl (lv_at hl 0 rfl) ?_
      refine lv_iload_n hx hb dX6_set__11 rfl (lv_at hl 1 rfl) ?_
      refine lv_lload_n hx hb dX6_set__12 rfl (lv_at hl 2 rfl) ?_
      obtain ⟨hb_4, hF⟩ := hF
      refine stB S hK had hP hS (k := k0_) hk0_ hb_4 dX6_set__13 (fun M_3 H locs eM_3 hP hS => ?_)
      have hF := hF M_3 eM_3
      exact retV S hr hlocks hP hS hF dX6_set__14
def wX6_at_ (k0_ : Nat) (a1 : Int32) (Q : Int64 → Mm → Prop) (M : Mm) : Prop := ((a1 < 0 → (Q (0 : Int64) M)) ∧ (¬ a1 < 0 → (((Int32.ofNat (lenA k0_)) ≤ a1 → (Q (0 : Int64) M)) ∧ (¬ (Int32.ofNat (lenA k0_)) ≤ a1 → (vp_in a1 (lenA k0_) ∧ (Q (gb M k0_ a1.toNatClampNeg) M))))))
set_option maxHeartbeats 4000000 in
set_option maxRecDepth 100000 in
theorem ctX6_at_ (l : Launch) (D : va_G) (cI cJ : ClassId) (ad : Nat → Nat) (had : inj54 ad) (k0_ : Nat) (hk0_ : isB k0_ = true) (a1 : Int32) (Q : Int64 → Mm → Prop) (M : Mm) (hF : wX6_at_ k0_ a1 Q M) : Met l yX6_at_ wsX6_at_ ({ frames := 0, cells := 0, slots := 0, locals := 0 } : Room) (PcW D cI cJ ad M [.ref (ad k0_), .int a1]) (QlW D cI cJ ad Q) 0 0 (Fr ad) := by
  refine entW (y := yX6_at_) (ret := some .long) (maxL := 2) (plainFor_of_name (by decide)) rfl (Nat.le_of_ble_eq_true rfl) ?_
  intro p e s m args below meth c ls S hK hr hlocks hP hS hl
  have hx := S.1
  have hb := S.2.1
  have hown := S.2.2.2.1
  have hts := S.2.2.2.2
  have hl : lv_has ls 2 [(0, .ref (ad k0_)), (1, .int a1)] := hl
  unfold wX6_at_ at hF
  refine lv_iload_n hx hb dX6_at__0 rfl (lv_at hl 1 rfl) ?_
  refine lv_if_lt (tgt := 16) hx hb dX6_at__1 (by decide) (fun c_1 => ?_) (fun c_1 => ?_)
  · have hF := hF.1 c_1
    refine lv_lconst (v := 0) hx hb dX6_at__16 (by decide) ?_
    exact retL S hr hlocks hP hS hF dX6_at__17
  · have hF := hF.2 c_1
    refine lv_iload_n hx hb dX6_at__4 rfl (lv_at hl 1 rfl) ?_
    refine lv_aload_n hx hb dX6_at__5 rfl (lv_at hl 0 rfl) ?_
    refine alB S hK hP hk0_ dX6_at__6 ?_
    refine lv_icmp_ge (tgt := 16) hx hb dX6_at__7 (by decide) (fun c_2 => ?_) (fun c_2 => ?_)
    · have hF := hF.1 c_2
      refine lv_lconst (v := 0) hx hb dX6_at__16 (by decide) ?_
      exact retL S hr hlocks hP hS hF dX6_at__17
    · have hF := hF.2 c_2
      refine lv_aload_n hx hb dX6_at__10 rfl (lv_at hl 0 rfl) ?_
      refine lv_iload_n hx hb dX6_at__11 rfl (lv_at hl 1 rfl) ?_
      obtain ⟨hb_3, hF⟩ := hF
      refine ldB S hK hP (k := k0_) hk0_ hb_3 dX6_at__12 ?_
      refine lv_goto (tgt := 17) hx hb dX6_at__13 (by decide) ?_
      exact retL S hr hlocks hP hS hF dX6_at__17
def wJ9_floorDiv_f86c9 (a0 : Int64) (a2 : Int64) (Q : Int64 → Mm → Prop) (M : Mm) : Prop := (¬ a2 = 0 ∧ (((0 : Int64) ≤ (a0 ^^^ a2) → (Q (a0 / a2) M)) ∧ (¬ (0 : Int64) ≤ (a0 ^^^ a2) → ((((a0 / a2) * a2) = a0 → (Q (a0 / a2) M)) ∧ (¬ ((a0 / a2) * a2) = a0 → (Q ((a0 / a2) - (1 : Int64)) M))))))
set_option maxHeartbeats 4000000 in
set_option maxRecDepth 100000 in
theorem ctJ9_floorDiv_f86c9 (l : Launch) (D : va_G) (cI cJ : ClassId) (ad : Nat → Nat) (had : inj54 ad) (a0 : Int64) (a2 : Int64) (Q : Int64 → Mm → Prop) (M : Mm) (hF : wJ9_floorDiv_f86c9 a0 a2 Q M) : Met l yJ9_floorDiv_f86c9 wsJ9_floorDiv_f86c9 ({ frames := 0, cells := 0, slots := 0, locals := 0 } : Room) (PcW D cI cJ ad M [.long a0, .long a2]) (QlW D cI cJ ad Q) 0 0 (Fr ad) := by
  refine entW (y := yJ9_floorDiv_f86c9) (ret := some .long) (maxL := 6) (by decide +kernel) rfl (Nat.le_of_ble_eq_true rfl) ?_
  intro p e s m args below meth c ls S hK hr hlocks hP hS hl
  have hx := S.1
  have hb := S.2.1
  have hown := S.2.2.2.1
  have hts := S.2.2.2.2
  have hl : lv_has ls 6 [(0, .long a0), (2, .long a2)] := hl
  unfold wJ9_floorDiv_f86c9 at hF
  refine lv_lload_n hx hb dJ9_floorDiv_f86c9_0 rfl (lv_at hl 0 rfl) ?_
  refine lv_lload_n hx hb dJ9_floorDiv_f86c9_1 rfl (lv_at hl 1 rfl) ?_
  obtain ⟨hz_1, hF⟩ := hF
  refine lv_ldiv hx hb dJ9_floorDiv_f86c9_2 hz_1 ?_
  refine lv_lstore (lv' := [(4, .long (a0 / a2)), (0, .long a0), (2, .long a2)]) hx hb dJ9_floorDiv_f86c9_3 hl (by decide) rfl (fun ls hl => ?_)
  refine lv_lload_n hx hb dJ9_floorDiv_f86c9_5 rfl (lv_at hl 1 rfl) ?_
  refine lv_lload_n hx hb dJ9_floorDiv_f86c9_6 rfl (lv_at hl 2 rfl) ?_
  refine lv_lxor hx hb dJ9_floorDiv_f86c9_7 ?_
  refine lv_lconst (v := 0) hx hb dJ9_floorDiv_f86c9_8 (by decide) ?_
  refine W.lcmp hx hb dJ9_floorDiv_f86c9_9 ?_
  refine lv_if_ge (tgt := 27) hx hb dJ9_floorDiv_f86c9_10 (by decide) (fun c_2 => ?_) (fun c_2 => ?_)
  · have hF := hF.1 (lc_ge.mp c_2)
    refine lv_lload hx hb dJ9_floorDiv_f86c9_27 (lv_at hl 0 rfl) ?_
    exact retL S hr hlocks hP hS hF dJ9_floorDiv_f86c9_29
  · have hF := hF.2 (fun q => c_2 (lc_ge.mpr q))
    refine lv_lload hx hb dJ9_floorDiv_f86c9_13 (lv_at hl 0 rfl) ?_
    refine lv_lload_n hx hb dJ9_floorDiv_f86c9_15 rfl (lv_at hl 2 rfl) ?_
    refine lv_lmul hx hb dJ9_floorDiv_f86c9_16 ?_
    refine lv_lload_n hx hb dJ9_floorDiv_f86c9_17 rfl (lv_at hl 1 rfl) ?_
    refine W.lcmp hx hb dJ9_floorDiv_f86c9_18 ?_
    refine lv_if_eq (tgt := 27) hx hb dJ9_floorDiv_f86c9_19 (by decide) (fun c_3 => ?_) (fun c_3 => ?_)
    · have hF := hF.1 (lc_eq.mp c_3)
      refine lv_lload hx hb dJ9_floorDiv_f86c9_27 (lv_at hl 0 rfl) ?_
      exact retL S hr hlocks hP hS hF dJ9_floorDiv_f86c9_29
    · have hF := hF.2 (fun q => c_3 (lc_eq.mpr q))
      refine lv_lload hx hb dJ9_floorDiv_f86c9_22 (lv_at hl 0 rfl) ?_
      refine lv_lconst (v := 1) hx hb dJ9_floorDiv_f86c9_24 (by decide) ?_
      refine lv_lsub hx hb dJ9_floorDiv_f86c9_25 ?_
      exact retL S hr hlocks hP hS hF dJ9_floorDiv_f86c9_26
def bX6_compareShares_17 (Q : Int32 → Mm → Prop) (J_17 : Int64 → Int64 → Int64 → Int64 → Int32 → Mm → Prop) (x8_17 : Int64) (x10_17 : Int64) (x12_17 : Int64) (x14_17 : Int64) (x16_17 : Int32) (m17 : Mm) : Prop := (((200 : Int32) ≤ x16_17 → ((x14_17 ≤ (0 : Int64) → ((x10_17 ≤ (0 : Int64) → (Q (0 : Int32) m17)) ∧ (¬ x10_17 ≤ (0 : Int64) → (Q (-1 : Int32) m17)))) ∧ (¬ x14_17 ≤ (0 : Int64) → (Q (1 : Int32) m17)))) ∧ (¬ (200 : Int32) ≤ x16_17 → ((x10_17 ≤ (0 : Int64) → ((x14_17 ≤ (0 : Int64) → ((x10_17 ≤ (0 : Int64) → (Q (0 : Int32) m17)) ∧ (¬ x10_17 ≤ (0 : Int64) → (Q (-1 : Int32) m17)))) ∧ (¬ x14_17 ≤ (0 : Int64) → (Q (1 : Int32) m17)))) ∧ (¬ x10_17 ≤ (0 : Int64) → ((x14_17 ≤ (0 : Int64) → ((x14_17 ≤ (0 : Int64) → ((x10_17 ≤ (0 : Int64) → (Q (0 : Int32) m17)) ∧ (¬ x10_17 ≤ (0 : Int64) → (Q (-1 : Int32) m17)))) ∧ (¬ x14_17 ≤ (0 : Int64) → (Q (1 : Int32) m17)))) ∧ (¬ x14_17 ≤ (0 : Int64) → (wJ9_floorDiv_f86c9 x8_17 x10_17 (fun r_10 M_10 => (wJ9_floorDiv_f86c9 x12_17 x14_17 (fun r_11 M_11 => ((r_10 = r_11 → (J_17 x14_17 (x12_17 - (r_11 * x14_17)) x10_17 (x8_17 - (r_10 * x10_17)) (x16_17 + 1) M_11)) ∧ (¬ r_10 = r_11 → ((r_10 ≤ r_11 → (Q (-1 : Int32) M_11)) ∧ (¬ r_10 ≤ r_11 → (Q (1 : Int32) M_11)))))) M_10)) m17)))))))
def lX6_compareShares_17 (Q : Int32 → Mm → Prop) (x8_17 : Int64) (x10_17 : Int64) (x12_17 : Int64) (x14_17 : Int64) (x16_17 : Int32) (m17 : Mm) : Prop := ∀ I : Int64 → Int64 → Int64 → Int64 → Int32 → Mm → Prop, (∀ J : Int64 → Int64 → Int64 → Int64 → Int32 → Mm → Prop, (∀ (x8_17 : Int64) (x10_17 : Int64) (x12_17 : Int64) (x14_17 : Int64) (x16_17 : Int32) (m : Mm), J x8_17 x10_17 x12_17 x14_17 x16_17 m → I x8_17 x10_17 x12_17 x14_17 x16_17 m) → ∀ (x8_17 : Int64) (x10_17 : Int64) (x12_17 : Int64) (x14_17 : Int64) (x16_17 : Int32) (m : Mm), bX6_compareShares_17 Q J x8_17 x10_17 x12_17 x14_17 x16_17 m → I x8_17 x10_17 x12_17 x14_17 x16_17 m) → I x8_17 x10_17 x12_17 x14_17 x16_17 m17
theorem lX6_compareShares_17_mk (Q : Int32 → Mm → Prop) (x8_17 : Int64) (x10_17 : Int64) (x12_17 : Int64) (x14_17 : Int64) (x16_17 : Int32) (m17 : Mm) (h : bX6_compareShares_17 Q (lX6_compareShares_17 Q) x8_17 x10_17 x12_17 x14_17 x16_17 m17) : lX6_compareShares_17 Q x8_17 x10_17 x12_17 x14_17 x16_17 m17 := fun I hI => hI (lX6_compareShares_17 Q) (fun _ _ _ _ _ _ q => q I hI) _ _ _ _ _ _ h
def wX6_compareShares (a0 : Int64) (a2 : Int64) (a4 : Int64) (a6 : Int64) (Q : Int32 → Mm → Prop) (M : Mm) : Prop := (lX6_compareShares_17 Q a0 a2 a4 a6 (0 : Int32) M)
set_option maxHeartbeats 4000000 in
set_option maxRecDepth 100000 in
theorem ctX6_compareShares (l : Launch) (D : va_G) (cI cJ : ClassId) (ad : Nat → Nat) (had : inj54 ad) (a0 : Int64) (a2 : Int64) (a4 : Int64) (a6 : Int64) (Q : Int32 → Mm → Prop) (M : Mm) (hF : wX6_compareShares a0 a2 a4 a6 Q M) : Met l yX6_compareShares wsX6_compareShares ({ frames := 1, cells := 0, slots := 0, locals := 25 } : Room) (PcW D cI cJ ad M [.long a0, .long a2, .long a4, .long a6]) (QiW D cI cJ ad Q) 0 0 (Fr ad) := by
  refine entW (y := yX6_compareShares) (ret := some .int) (maxL := 25) (plainFor_of_name (by decide)) rfl (Nat.le_of_ble_eq_true rfl) ?_
  intro p e s m args below meth c ls S hK hr hlocks hP hS hl
  have hx := S.1
  have hb := S.2.1
  have hown := S.2.2.2.1
  have hts := S.2.2.2.2
  have hl : lv_has ls 25 [(0, .long a0), (2, .long a2), (4, .long a4), (6, .long a6)] := hl
  unfold wX6_compareShares at hF
  refine lv_lload_n hx hb dX6_compareShares_0 rfl (lv_at hl 0 rfl) ?_
  refine lv_lstore (lv' := [(8, .long a0), (0, .long a0), (2, .long a2), (4, .long a4), (6, .long a6)]) hx hb dX6_compareShares_1 hl (by decide) rfl (fun ls hl => ?_)
  refine lv_lload_n hx hb dX6_compareShares_3 rfl (lv_at hl 2 rfl) ?_
  refine lv_lstore (lv' := [(10, .long a2), (8, .long a0), (0, .long a0), (2, .long a2), (4, .long a4), (6, .long a6)]) hx hb dX6_compareShares_4 hl (by decide) rfl (fun ls hl => ?_)
  refine lv_lload hx hb dX6_compareShares_6 (lv_at hl 4 rfl) ?_
  refine lv_lstore (lv' := [(12, .long a4), (10, .long a2), (8, .long a0), (0, .long a0), (2, .long a2), (4, .long a4), (6, .long a6)]) hx hb dX6_compareShares_8 hl (by decide) rfl (fun ls hl => ?_)
  refine lv_lload hx hb dX6_compareShares_10 (lv_at hl 6 rfl) ?_
  refine lv_lstore (lv' := [(14, .long a6), (12, .long a4), (10, .long a2), (8, .long a0), (0, .long a0), (2, .long a2), (4, .long a4), (6, .long a6)]) hx hb dX6_compareShares_12 hl (by decide) rfl (fun ls hl => ?_)
  refine lv_iconst (v := 0) hx hb dX6_compareShares_14 (by decide) ?_
  refine lv_istore (lv' := [(16, .int (0 : Int32)), (14, .long a6), (12, .long a4), (10, .long a2), (8, .long a0), (0, .long a0), (2, .long a2), (4, .long a4), (6, .long a6)]) hx hb dX6_compareShares_15 hl (by decide) rfl (fun ls hl => ?_)
  have key_17 : ∀ (x8_17 : Int64) (x10_17 : Int64) (x12_17 : Int64) (x14_17 : Int64) (x16_17 : Int32) (m17 : Mm), (lX6_compareShares_17 Q x8_17 x10_17 x12_17 x14_17 x16_17 m17) → Wc p l e ({ frames := 1, cells := 0, slots := 0, locals := 25 } : Room) s m args below meth c D cI cJ ad (MQ below (QiW D cI cJ ad Q) args s 0 0 (Fr ad)) 25 17 [(8, .long x8_17), (10, .long x10_17), (12, .long x12_17), (14, .long x14_17), (16, .int x16_17)] m17 := by
    intro x8_17 x10_17 x12_17 x14_17 x16_17 m17 hL
    refine hL (fun x8_17 x10_17 x12_17 x14_17 x16_17 m17 => Wc p l e ({ frames := 1, cells := 0, slots := 0, locals := 25 } : Room) s m args below meth c D cI cJ ad (MQ below (QiW D cI cJ ad Q) args s 0 0 (Fr ad)) 25 17 [(8, .long x8_17), (10, .long x10_17), (12, .long x12_17), (14, .long x14_17), (16, .int x16_17)] m17) ?_
    intro J_17 hJ_17 x8_17 x10_17 x12_17 x14_17 x16_17 m17 hF H locs ls hP hS hl
    unfold bX6_compareShares_17 at hF
    refine lv_iload hx hb dX6_compareShares_17 (lv_at hl 4 rfl) ?_
    refine lv_sipush (v := 200) hx hb dX6_compareShares_19 (by decide) ?_
    refine lv_icmp_ge (tgt := 121) hx hb dX6_compareShares_22 (by decide) (fun c_1 => ?_) (fun c_1 => ?_)
    · have hF := hF.1 c_1
      refine lv_lload hx hb dX6_compareShares_121 (lv_at hl 3 rfl) ?_
      refine lv_lconst (v := 0) hx hb dX6_compareShares_123 (by decide) ?_
      refine W.lcmp hx hb dX6_compareShares_124 ?_
      refine lv_if_le (tgt := 132) hx hb dX6_compareShares_125 (by decide) (fun c_2 => ?_) (fun c_2 => ?_)
      · have hF := hF.1 (lc_le.mp c_2)
        refine lv_lload hx hb dX6_compareShares_132 (lv_at hl 1 rfl) ?_
        refine lv_lconst (v := 0) hx hb dX6_compareShares_134 (by decide) ?_
        refine W.lcmp hx hb dX6_compareShares_135 ?_
        refine lv_if_le (tgt := 143) hx hb dX6_compareShares_136 (by decide) (fun c_3 => ?_) (fun c_3 => ?_)
        · have hF := hF.1 (lc_le.mp c_3)
          refine lv_iconst (v := 0) hx hb dX6_compareShares_143 (by decide) ?_
          exact retI S hr hlocks hP hS hF dX6_compareShares_144
        · have hF := hF.2 (fun q => c_3 (lc_le.mpr q))
          refine lv_iconst (v := -1) hx hb dX6_compareShares_139 (by decide) ?_
          refine lv_goto (tgt := 144) hx hb dX6_compareShares_140 (by decide) ?_
          exact retI S hr hlocks hP hS hF dX6_compareShares_144
      · have hF := hF.2 (fun q => c_2 (lc_le.mpr q))
        refine lv_iconst (v := 1) hx hb dX6_compareShares_128 (by decide) ?_
        refine lv_goto (tgt := 144) hx hb dX6_compareShares_129 (by decide) ?_
        exact retI S hr hlocks hP hS hF dX6_compareShares_144
    · have hF := hF.2 c_1
      refine lv_lload hx hb dX6_compareShares_25 (lv_at hl 1 rfl) ?_
      refine lv_lconst (v := 0) hx hb dX6_compareShares_27 (by decide) ?_
      refine W.lcmp hx hb dX6_compareShares_28 ?_
      refine lv_if_le (tgt := 121) hx hb dX6_compareShares_29 (by decide) (fun c_4 => ?_) (fun c_4 => ?_)
      · have hF := hF.1 (lc_le.mp c_4)
        refine lv_lload hx hb dX6_compareShares_121 (lv_at hl 3 rfl) ?_
        refine lv_lconst (v := 0) hx hb dX6_compareShares_123 (by decide) ?_
        refine W.lcmp hx hb dX6_compareShares_124 ?_
        refine lv_if_le (tgt := 132) hx hb dX6_compareShares_125 (by decide) (fun c_5 => ?_) (fun c_5 => ?_)
        · have hF := hF.1 (lc_le.mp c_5)
          refine lv_lload hx hb dX6_compareShares_132 (lv_at hl 1 rfl) ?_
          refine lv_lconst (v := 0) hx hb dX6_compareShares_134 (by decide) ?_
          refine W.lcmp hx hb dX6_compareShares_135 ?_
          refine lv_if_le (tgt := 143) hx hb dX6_compareShares_136 (by decide) (fun c_6 => ?_) (fun c_6 => ?_)
          · have hF := hF.1 (lc_le.mp c_6)
            refine lv_iconst (v := 0) hx hb dX6_compareShares_143 (by decide) ?_
            exact retI S hr hlocks hP hS hF dX6_compareShares_144
          · have hF := hF.2 (fun q => c_6 (lc_le.mpr q))
            refine lv_iconst (v := -1) hx hb dX6_compareShares_139 (by decide) ?_
            refine lv_goto (tgt := 144) hx hb dX6_compareShares_140 (by decide) ?_
            exact retI S hr hlocks hP hS hF dX6_compareShares_144
        · have hF := hF.2 (fun q => c_5 (lc_le.mpr q))
          refine lv_iconst (v := 1) hx hb dX6_compareShares_128 (by decide) ?_
          refine lv_goto (tgt := 144) hx hb dX6_compareShares_129 (by decide) ?_
          exact retI S hr hlocks hP hS hF dX6_compareShares_144
      · have hF := hF.2 (fun q => c_4 (lc_le.mpr q))
        refine lv_lload hx hb dX6_compareShares_32 (lv_at hl 3 rfl) ?_
        refine lv_lconst (v := 0) hx hb dX6_compareShares_34 (by decide) ?_
        refine W.lcmp hx hb dX6_compareShares_35 ?_
        refine lv_if_le (tgt := 121) hx hb dX6_compareShares_36 (by decide) (fun c_7 => ?_) (fun c_7 => ?_)
        · have hF := hF.1 (lc_le.mp c_7)
          refine lv_lload hx hb dX6_compareShares_121 (lv_at hl 3 rfl) ?_
          refine lv_lconst (v := 0) hx hb dX6_compareShares_123 (by decide) ?_
          refine W.lcmp hx hb dX6_compareShares_124 ?_
          refine lv_if_le (tgt := 132) hx hb dX6_compareShares_125 (by decide) (fun c_8 => ?_) (fun c_8 => ?_)
          · have hF := hF.1 (lc_le.mp c_8)
            refine lv_lload hx hb dX6_compareShares_132 (lv_at hl 1 rfl) ?_
            refine lv_lconst (v := 0) hx hb dX6_compareShares_134 (by decide) ?_
            refine W.lcmp hx hb dX6_compareShares_135 ?_
            refine lv_if_le (tgt := 143) hx hb dX6_compareShares_136 (by decide) (fun c_9 => ?_) (fun c_9 => ?_)
            · have hF := hF.1 (lc_le.mp c_9)
              refine lv_iconst (v := 0) hx hb dX6_compareShares_143 (by decide) ?_
              exact retI S hr hlocks hP hS hF dX6_compareShares_144
            · have hF := hF.2 (fun q => c_9 (lc_le.mpr q))
              refine lv_iconst (v := -1) hx hb dX6_compareShares_139 (by decide) ?_
              refine lv_goto (tgt := 144) hx hb dX6_compareShares_140 (by decide) ?_
              exact retI S hr hlocks hP hS hF dX6_compareShares_144
          · have hF := hF.2 (fun q => c_8 (lc_le.mpr q))
            refine lv_iconst (v := 1) hx hb dX6_compareShares_128 (by decide) ?_
            refine lv_goto (tgt := 144) hx hb dX6_compareShares_129 (by decide) ?_
            exact retI S hr hlocks hP hS hF dX6_compareShares_144
        · have hF := hF.2 (fun q => c_7 (lc_le.mpr q))
          refine lv_lload hx hb dX6_compareShares_39 (lv_at hl 0 rfl) ?_
          refine lv_lload hx hb dX6_compareShares_41 (lv_at hl 1 rfl) ?_
          refine goL (rS (rest := []) S hK hP (ctJ9_floorDiv_f86c9 l D cI cJ ad had x8_17 x10_17 _ _ hF) (va_cwS 2 hts gX6_compareShares_J9_floorDiv_f86c9 rfl rfl rfl hdS_J9_floorDiv_f86c9 ⟨Nat.le_of_ble_eq_true rfl, Nat.le_of_ble_eq_true rfl⟩) rfl hl.1 rfl (Nat.le_of_ble_eq_true rfl) dX6_compareShares_43 ⟨Nat.zero_le _, Nat.zero_le _⟩) hS (fun _ h => h) (fun r_10 M_10 H locs hP hS hF => ?_)
          refine lv_lstore (lv' := [(17, .long r_10), (8, .long x8_17), (10, .long x10_17), (12, .long x12_17), (14, .long x14_17), (16, .int x16_17)]) hx hb dX6_compareShares_46 hl (by decide) rfl (fun ls hl => ?_)
          refine lv_lload hx hb dX6_compareShares_48 (lv_at hl 3 rfl) ?_
          refine lv_lload hx hb dX6_compareShares_50 (lv_at hl 4 rfl) ?_
          refine goL (rS (rest := []) S hK hP (ctJ9_floorDiv_f86c9 l D cI cJ ad had x12_17 x14_17 _ _ hF) (va_cwS 2 hts gX6_compareShares_J9_floorDiv_f86c9 rfl rfl rfl hdS_J9_floorDiv_f86c9 ⟨Nat.le_of_ble_eq_true rfl, Nat.le_of_ble_eq_true rfl⟩) rfl hl.1 rfl (Nat.le_of_ble_eq_true rfl) dX6_compareShares_52 ⟨Nat.zero_le _, Nat.zero_le _⟩) hS (fun _ h => h) (fun r_11 M_11 H locs hP hS hF => ?_)
          refine lv_lstore (lv' := [(19, .long r_11), (17, .long r_10), (8, .long x8_17), (10, .long x10_17), (12, .long x12_17), (14, .long x14_17), (16, .int x16_17)]) hx hb dX6_compareShares_55 hl (by decide) rfl (fun ls hl => ?_)
          refine lv_lload hx hb dX6_compareShares_57 (lv_at hl 1 rfl) ?_
          refine lv_lload hx hb dX6_compareShares_59 (lv_at hl 0 rfl) ?_
          refine W.lcmp hx hb dX6_compareShares_61 ?_
          refine lv_if_eq (tgt := 79) hx hb dX6_compareShares_62 (by decide) (fun c_12 => ?_) (fun c_12 => ?_)
          · have hF := hF.1 (lc_eq.mp c_12)
            refine lv_lload hx hb dX6_compareShares_79 (lv_at hl 2 rfl) ?_
            refine lv_lload hx hb dX6_compareShares_81 (lv_at hl 1 rfl) ?_
            refine lv_lload hx hb dX6_compareShares_83 (lv_at hl 3 rfl) ?_
            refine lv_lmul hx hb dX6_compareShares_85 ?_
            refine lv_lsub hx hb dX6_compareShares_86 ?_
            refine lv_lstore (lv' := [(21, .long (x8_17 - (r_10 * x10_17))), (19, .long r_11), (17, .long r_10), (8, .long x8_17), (10, .long x10_17), (12, .long x12_17), (14, .long x14_17), (16, .int x16_17)]) hx hb dX6_compareShares_87 hl (by decide) rfl (fun ls hl => ?_)
            refine lv_lload hx hb dX6_compareShares_89 (lv_at hl 5 rfl) ?_
            refine lv_lload hx hb dX6_compareShares_91 (lv_at hl 1 rfl) ?_
            refine lv_lload hx hb dX6_compareShares_93 (lv_at hl 6 rfl) ?_
            refine lv_lmul hx hb dX6_compareShares_95 ?_
            refine lv_lsub hx hb dX6_compareShares_96 ?_
            refine lv_lstore (lv' := [(23, .long (x12_17 - (r_11 * x14_17))), (21, .long (x8_17 - (r_10 * x10_17))), (19, .long r_11), (17, .long r_10), (8, .long x8_17), (10, .long x10_17), (12, .long x12_17), (14, .long x14_17), (16, .int x16_17)]) hx hb dX6_compareShares_97 hl (by decide) rfl (fun ls hl => ?_)
            refine lv_lload hx hb dX6_compareShares_99 (lv_at hl 7 rfl) ?_
            refine lv_lstore (lv' := [(8, .long x14_17), (23, .long (x12_17 - (r_11 * x14_17))), (21, .long (x8_17 - (r_10 * x10_17))), (19, .long r_11), (17, .long r_10), (10, .long x10_17), (12, .long x12_17), (14, .long x14_17), (16, .int x16_17)]) hx hb dX6_compareShares_101 hl (by decide) rfl (fun ls hl => ?_)
            refine lv_lload hx hb dX6_compareShares_103 (lv_at hl 5 rfl) ?_
            refine lv_lstore (lv' := [(12, .long x10_17), (8, .long x14_17), (23, .long (x12_17 - (r_11 * x14_17))), (21, .long (x8_17 - (r_10 * x10_17))), (19, .long r_11), (17, .long r_10), (10, .long x10_17), (14, .long x14_17), (16, .int x16_17)]) hx hb dX6_compareShares_105 hl (by decide) rfl (fun ls hl => ?_)
            refine lv_lload hx hb dX6_compareShares_107 (lv_at hl 2 rfl) ?_
            refine lv_lstore (lv' := [(10, .long (x12_17 - (r_11 * x14_17))), (12, .long x10_17), (8, .long x14_17), (23, .long (x12_17 - (r_11 * x14_17))), (21, .long (x8_17 - (r_10 * x10_17))), (19, .long r_11), (17, .long r_10), (14, .long x14_17), (16, .int x16_17)]) hx hb dX6_compareShares_109 hl (by decide) rfl (fun ls hl => ?_)
            refine lv_lload hx hb dX6_compareShares_111 (lv_at hl 4 rfl) ?_
            refine lv_lstore (lv' := [(14, .long (x8_17 - (r_10 * x10_17))), (10, .long (x12_17 - (r_11 * x14_17))), (12, .long x10_17), (8, .long x14_17), (23, .long (x12_17 - (r_11 * x14_17))), (21, .long (x8_17 - (r_10 * x10_17))), (19, .long r_11), (17, .long r_10), (16, .int x16_17)]) hx hb dX6_compareShares_113 hl (by decide) rfl (fun ls hl => ?_)
            refine lv_iinc (v := (x16_17 + 1)) (lv' := [(16, .int (x16_17 + 1)), (14, .long (x8_17 - (r_10 * x10_17))), (10, .long (x12_17 - (r_11 * x14_17))), (12, .long x10_17), (8, .long x14_17), (23, .long (x12_17 - (r_11 * x14_17))), (21, .long (x8_17 - (r_10 * x10_17))), (19, .long r_11), (17, .long r_10)]) hx hb dX6_compareShares_115 hl (k := 8) rfl rfl (by decide) rfl (fun ls hl => ?_)
            refine lv_goto (tgt := 17) hx hb dX6_compareShares_118 (by decide) ?_
            exact hJ_17 _ _ _ _ _ _ hF _ _ _ hP hS (lv_sub hl [4, 2, 3, 1, 0] rfl)
          · have hF := hF.2 (fun q => c_12 (lc_eq.mpr q))
            refine lv_lload hx hb dX6_compareShares_65 (lv_at hl 1 rfl) ?_
            refine lv_lload hx hb dX6_compareShares_67 (lv_at hl 0 rfl) ?_
            refine W.lcmp hx hb dX6_compareShares_69 ?_
            refine lv_if_le (tgt := 77) hx hb dX6_compareShares_70 (by decide) (fun c_13 => ?_) (fun c_13 => ?_)
            · have hF := hF.1 (lc_le.mp c_13)
              refine lv_iconst (v := -1) hx hb dX6_compareShares_77 (by decide) ?_
              exact retI S hr hlocks hP hS hF dX6_compareShares_78
            · have hF := hF.2 (fun q => c_13 (lc_le.mpr q))
              refine lv_iconst (v := 1) hx hb dX6_compareShares_73 (by decide) ?_
              refine lv_goto (tgt := 78) hx hb dX6_compareShares_74 (by decide) ?_
              exact retI S hr hlocks hP hS hF dX6_compareShares_78
  exact key_17 _ _ _ _ _ _ hF _ _ _ hP hS (lv_sub hl [4, 3, 2, 1, 0] rfl)
def bX6_commonDivisor_9 (Q : Int64 → Mm → Prop) (J_9 : Int64 → Int64 → Int32 → Mm → Prop) (x4_9 : Int64) (x6_9 : Int64) (x8_9 : Int32) (m9 : Mm) : Prop := (((200 : Int32) ≤ x8_9 → (Q x4_9 m9)) ∧ (¬ (200 : Int32) ≤ x8_9 → ((x6_9 = (0 : Int64) → (Q x4_9 m9)) ∧ (¬ x6_9 = (0 : Int64) → (¬ x6_9 = 0 ∧ (J_9 x6_9 (x4_9 - x4_9 / x6_9 * x6_9) (x8_9 + 1) m9))))))
def lX6_commonDivisor_9 (Q : Int64 → Mm → Prop) (x4_9 : Int64) (x6_9 : Int64) (x8_9 : Int32) (m9 : Mm) : Prop := ∀ I : Int64 → Int64 → Int32 → Mm → Prop, (∀ J : Int64 → Int64 → Int32 → Mm → Prop, (∀ (x4_9 : Int64) (x6_9 : Int64) (x8_9 : Int32) (m : Mm), J x4_9 x6_9 x8_9 m → I x4_9 x6_9 x8_9 m) → ∀ (x4_9 : Int64) (x6_9 : Int64) (x8_9 : Int32) (m : Mm), bX6_commonDivisor_9 Q J x4_9 x6_9 x8_9 m → I x4_9 x6_9 x8_9 m) → I x4_9 x6_9 x8_9 m9
theorem lX6_commonDivisor_9_mk (Q : Int64 → Mm → Prop) (x4_9 : Int64) (x6_9 : Int64) (x8_9 : Int32) (m9 : Mm) (h : bX6_commonDivisor_9 Q (lX6_commonDivisor_9 Q) x4_9 x6_9 x8_9 m9) : lX6_commonDivisor_9 Q x4_9 x6_9 x8_9 m9 := fun I hI => hI (lX6_commonDivisor_9 Q) (fun _ _ _ _ q => q I hI) _ _ _ _ h
def wX6_commonDivisor (a0 : Int64) (a2 : Int64) (Q : Int64 → Mm → Prop) (M : Mm) : Prop := (lX6_commonDivisor_9 Q a0 a2 (0 : Int32) M)
set_option maxHeartbeats 4000000 in
set_option maxRecDepth 100000 in
theorem ctX6_commonDivisor (l : Launch) (D : va_G) (cI cJ : ClassId) (ad : Nat → Nat) (had : inj54 ad) (a0 : Int64) (a2 : Int64) (Q : Int64 → Mm → Prop) (M : Mm) (hF : wX6_commonDivisor a0 a2 Q M) : Met l yX6_commonDivisor wsX6_commonDivisor ({ frames := 0, cells := 0, slots := 0, locals := 0 } : Room) (PcW D cI cJ ad M [.long a0, .long a2]) (QlW D cI cJ ad Q) 0 0 (Fr ad) := by
  refine entW (y := yX6_commonDivisor) (ret := some .long) (maxL := 11) (plainFor_of_name (by decide)) rfl (Nat.le_of_ble_eq_true rfl) ?_
  intro p e s m args below meth c ls S hK hr hlocks hP hS hl
  have hx := S.1
  have hb := S.2.1
  have hown := S.2.2.2.1
  have hts := S.2.2.2.2
  have hl : lv_has ls 11 [(0, .long a0), (2, .long a2)] := hl
  unfold wX6_commonDivisor at hF
  refine lv_lload_n hx hb dX6_commonDivisor_0 rfl (lv_at hl 0 rfl) ?_
  refine lv_lstore (lv' := [(4, .long a0), (0, .long a0), (2, .long a2)]) hx hb dX6_commonDivisor_1 hl (by decide) rfl (fun ls hl => ?_)
  refine lv_lload_n hx hb dX6_commonDivisor_3 rfl (lv_at hl 2 rfl) ?_
  refine lv_lstore (lv' := [(6, .long a2), (4, .long a0), (0, .long a0), (2, .long a2)]) hx hb dX6_commonDivisor_4 hl (by decide) rfl (fun ls hl => ?_)
  refine lv_iconst (v := 0) hx hb dX6_commonDivisor_6 (by decide) ?_
  refine lv_istore (lv' := [(8, .int (0 : Int32)), (6, .long a2), (4, .long a0), (0, .long a0), (2, .long a2)]) hx hb dX6_commonDivisor_7 hl (by decide) rfl (fun ls hl => ?_)
  have key_9 : ∀ (x4_9 : Int64) (x6_9 : Int64) (x8_9 : Int32) (m9 : Mm), (lX6_commonDivisor_9 Q x4_9 x6_9 x8_9 m9) → Wc p l e ({ frames := 0, cells := 0, slots := 0, locals := 0 } : Room) s m args below meth c D cI cJ ad (MQ below (QlW D cI cJ ad Q) args s 0 0 (Fr ad)) 11 9 [(4, .long x4_9), (6, .long x6_9), (8, .int x8_9)] m9 := by
    intro x4_9 x6_9 x8_9 m9 hL
    refine hL (fun x4_9 x6_9 x8_9 m9 => Wc p l e ({ frames := 0, cells := 0, slots := 0, locals := 0 } : Room) s m args below meth c D cI cJ ad (MQ below (QlW D cI cJ ad Q) args s 0 0 (Fr ad)) 11 9 [(4, .long x4_9), (6, .long x6_9), (8, .int x8_9)] m9) ?_
    intro J_9 hJ_9 x4_9 x6_9 x8_9 m9 hF H locs ls hP hS hl
    unfold bX6_commonDivisor_9 at hF
    refine lv_iload hx hb dX6_commonDivisor_9 (lv_at hl 2 rfl) ?_
    refine lv_sipush (v := 200) hx hb dX6_commonDivisor_11 (by decide) ?_
    refine lv_icmp_ge (tgt := 45) hx hb dX6_commonDivisor_14 (by decide) (fun c_1 => ?_) (fun c_1 => ?_)
    · have hF := hF.1 c_1
      refine lv_lload hx hb dX6_commonDivisor_45 (lv_at hl 0 rfl) ?_
      exact retL S hr hlocks hP hS hF dX6_commonDivisor_47
    · have hF := hF.2 c_1
      refine lv_lload hx hb dX6_commonDivisor_17 (lv_at hl 1 rfl) ?_
      refine lv_lconst (v := 0) hx hb dX6_commonDivisor_19 (by decide) ?_
      refine W.lcmp hx hb dX6_commonDivisor_20 ?_
      refine lv_if_eq (tgt := 45) hx hb dX6_commonDivisor_21 (by decide) (fun c_2 => ?_) (fun c_2 => ?_)
      · have hF := hF.1 (lc_eq.mp c_2)
        refine lv_lload hx hb dX6_commonDivisor_45 (lv_at hl 0 rfl) ?_
        exact retL S hr hlocks hP hS hF dX6_commonDivisor_47
      · have hF := hF.2 (fun q => c_2 (lc_eq.mpr q))
        refine lv_lload hx hb dX6_commonDivisor_24 (lv_at hl 0 rfl) ?_
        refine lv_lload hx hb dX6_commonDivisor_26 (lv_at hl 1 rfl) ?_
        obtain ⟨hz_3, hF⟩ := hF
        refine lv_lrem hx hb dX6_commonDivisor_28 hz_3 ?_
        refine lv_lstore (lv' := [(9, .long (x4_9 - x4_9 / x6_9 * x6_9)), (4, .long x4_9), (6, .long x6_9), (8, .int x8_9)]) hx hb dX6_commonDivisor_29 hl (by decide) rfl (fun ls hl => ?_)
        refine lv_lload hx hb dX6_commonDivisor_31 (lv_at hl 2 rfl) ?_
        refine lv_lstore (lv' := [(4, .long x6_9), (9, .long (x4_9 - x4_9 / x6_9 * x6_9)), (6, .long x6_9), (8, .int x8_9)]) hx hb dX6_commonDivisor_33 hl (by decide) rfl (fun ls hl => ?_)
        refine lv_lload hx hb dX6_commonDivisor_35 (lv_at hl 1 rfl) ?_
        refine lv_lstore (lv' := [(6, .long (x4_9 - x4_9 / x6_9 * x6_9)), (4, .long x6_9), (9, .long (x4_9 - x4_9 / x6_9 * x6_9)), (8, .int x8_9)]) hx hb dX6_commonDivisor_37 hl (by decide) rfl (fun ls hl => ?_)
        refine lv_iinc (v := (x8_9 + 1)) (lv' := [(8, .int (x8_9 + 1)), (6, .long (x4_9 - x4_9 / x6_9 * x6_9)), (4, .long x6_9), (9, .long (x4_9 - x4_9 / x6_9 * x6_9))]) hx hb dX6_commonDivisor_39 hl (k := 3) rfl rfl (by decide) rfl (fun ls hl => ?_)
        refine lv_goto (tgt := 9) hx hb dX6_commonDivisor_42 (by decide) ?_
        exact hJ_9 _ _ _ _ hF _ _ _ hP hS (lv_sub hl [2, 1, 0] rfl)
  exact key_9 _ _ _ _ hF _ _ _ hP hS (lv_sub hl [2, 1, 0] rfl)
def wX6_share (a0 : Int64) (a2 : Int64) (a4 : Int32) (Q : Int64 → Mm → Prop) (M : Mm) : Prop := (wX6_commonDivisor (if 0 < a0 then a0 else -a0) a2 (fun r_1 M_1 => (((1 : Int64) ≤ r_1 → ((a4 = 0 → (¬ r_1 = 0 ∧ (Q (a0 / r_1) M_1))) ∧ (¬ a4 = 0 → (¬ r_1 = 0 ∧ (Q (a2 / r_1) M_1))))) ∧ (¬ (1 : Int64) ≤ r_1 → (Q (-9223372036854775808 : Int64) M_1)))) M)
set_option maxHeartbeats 4000000 in
set_option maxRecDepth 100000 in
theorem ctX6_share (l : Launch) (D : va_G) (cI cJ : ClassId) (ad : Nat → Nat) (had : inj54 ad) (a0 : Int64) (a2 : Int64) (a4 : Int32) (Q : Int64 → Mm → Prop) (M : Mm) (hF : wX6_share a0 a2 a4 Q M) : Met l yX6_share wsX6_share ({ frames := 1, cells := 0, slots := 0, locals := 30 } : Room) (PcW D cI cJ ad M [.long a0, .long a2, .int a4]) (QlW D cI cJ ad Q) 0 0 (Fr ad) := by
  refine entW (y := yX6_share) (ret := some .long) (maxL := 7) (plainFor_of_name (by decide)) rfl (Nat.le_of_ble_eq_true rfl) ?_
  intro p e s m args below meth c ls S hK hr hlocks hP hS hl
  have hx := S.1
  have hb := S.2.1
  have hown := S.2.2.2.1
  have hts := S.2.2.2.2
  have hl : lv_has ls 7 [(0, .long a0), (2, .long a2), (4, .int a4)] := hl
  unfold wX6_share at hF
  refine lv_lload_n hx hb dX6_share_0 rfl (lv_at hl 0 rfl) ?_
  refine va_mabs_long hx hb (S.2.2.1.trans hl.1.symm) hown (hts (.methodLink RX6 337 Lib.MathLoose.abs_long.x) (by decide +kernel)) (hts (.static Lib.MathLoose.abs_long.x) (by decide +kernel)) (hts (.initialized "java/lang/Math") (by decide +kernel)) (hts (.code Lib.MathLoose.abs_long.x Lib.MathLoose.abs_long.code 2 (some .long)) (by decide +kernel)) (Nat.le_of_ble_eq_true rfl) (Nat.le_of_ble_eq_true rfl) (Nat.zero_le _) (Nat.zero_le _) dX6_share_1 ?_
  refine lv_lload_n hx hb dX6_share_4 rfl (lv_at hl 1 rfl) ?_
  refine goL (rS (rest := []) S hK hP (ctX6_commonDivisor l D cI cJ ad had (if 0 < a0 then a0 else -a0) a2 _ _ hF) (va_cwS 2 hts gX6_share_X6_commonDivisor rfl rfl rfl hdS_X6_commonDivisor ⟨Nat.le_of_ble_eq_true rfl, Nat.le_of_ble_eq_true rfl⟩) rfl hl.1 rfl (Nat.le_of_ble_eq_true rfl) dX6_share_5 ⟨Nat.zero_le _, Nat.zero_le _⟩) hS (fun _ h => h) (fun r_1 M_1 H locs hP hS hF => ?_)
  refine lv_lstore (lv' := [(5, .long r_1), (0, .long a0), (2, .long a2), (4, .int a4)]) hx hb dX6_share_8 hl (by decide) rfl (fun ls hl => ?_)
  refine lv_lload hx hb dX6_share_10 (lv_at hl 0 rfl) ?_
  refine lv_lconst (v := 1) hx hb dX6_share_12 (by decide) ?_
  refine W.lcmp hx hb dX6_share_13 ?_
  refine lv_if_ge (tgt := 21) hx hb dX6_share_14 (by decide) (fun c_2 => ?_) (fun c_2 => ?_)
  · have hF := hF.1 (lc_ge.mp c_2)
    refine lv_iload hx hb dX6_share_21 (lv_at hl 3 rfl) ?_
    refine lv_if_ne (tgt := 30) hx hb dX6_share_23 (by decide) (fun c_3 => ?_) (fun c_3 => ?_)
    · have hF := hF.2 c_3
      refine lv_lload_n hx hb dX6_share_30 rfl (lv_at hl 2 rfl) ?_
      refine lv_lload hx hb dX6_share_31 (lv_at hl 0 rfl) ?_
      obtain ⟨hz_4, hF⟩ := hF
      refine lv_ldiv hx hb dX6_share_33 hz_4 ?_
      exact retL S hr hlocks hP hS hF dX6_share_34
    · have hF := hF.1 c_3
      refine lv_lload_n hx hb dX6_share_26 rfl (lv_at hl 1 rfl) ?_
      refine lv_goto (tgt := 31) hx hb dX6_share_27 (by decide) ?_
      refine lv_lload hx hb dX6_share_31 (lv_at hl 0 rfl) ?_
      obtain ⟨hz_5, hF⟩ := hF
      refine lv_ldiv hx hb dX6_share_33 hz_5 ?_
      exact retL S hr hlocks hP hS hF dX6_share_34
  · have hF := hF.2 (fun q => c_2 (lc_ge.mpr q))
    refine lv_ldc2 (v := -9223372036854775808) hx hb hown (hts (.constantLong RX6 156 (-9223372036854775808)) (by decide +kernel)) dX6_share_17 ?_
    exact retL S hr hlocks hP hS hF dX6_share_20
def bX2_sortDrawn_4 (a1 : Int32) (Q : Int32 → Mm → Prop) (J_4 : Int32 → Int32 → Mm → Prop) (x2_4 : Int32) (x3_4 : Int32) (m4 : Mm) : Prop := (((gi m4 14) ≤ x3_4 → (Q (-9 : Int32) m4)) ∧ (¬ (gi m4 14) ≤ x3_4 → (wX6_at 13 x3_4 (fun r_2 M_2 => (((x2_4 + r_2) ≤ a1 → (J_4 (x2_4 + r_2) (x3_4 + 1) M_2)) ∧ (¬ (x2_4 + r_2) ≤ a1 → (Q x3_4 M_2)))) m4)))
def lX2_sortDrawn_4 (a1 : Int32) (Q : Int32 → Mm → Prop) (x2_4 : Int32) (x3_4 : Int32) (m4 : Mm) : Prop := ∀ I : Int32 → Int32 → Mm → Prop, (∀ J : Int32 → Int32 → Mm → Prop, (∀ (x2_4 : Int32) (x3_4 : Int32) (m : Mm), J x2_4 x3_4 m → I x2_4 x3_4 m) → ∀ (x2_4 : Int32) (x3_4 : Int32) (m : Mm), bX2_sortDrawn_4 a1 Q J x2_4 x3_4 m → I x2_4 x3_4 m) → I x2_4 x3_4 m4
theorem lX2_sortDrawn_4_mk (a1 : Int32) (Q : Int32 → Mm → Prop) (x2_4 : Int32) (x3_4 : Int32) (m4 : Mm) (h : bX2_sortDrawn_4 a1 Q (lX2_sortDrawn_4 a1 Q) x2_4 x3_4 m4) : lX2_sortDrawn_4 a1 Q x2_4 x3_4 m4 := fun I hI => hI (lX2_sortDrawn_4 a1 Q) (fun _ _ _ q => q I hI) _ _ _ h
def wX2_sortDrawn (a1 : Int32) (Q : Int32 → Mm → Prop) (M : Mm) : Prop := (lX2_sortDrawn_4 a1 Q (0 : Int32) (0 : Int32) M)
set_option maxHeartbeats 4000000 in
set_option maxRecDepth 100000 in
theorem ctX2_sortDrawn (l : Launch) (D : va_G) (cI cJ : ClassId) (ad : Nat → Nat) (had : inj54 ad) (a1 : Int32) (Q : Int32 → Mm → Prop) (M : Mm) (hF : wX2_sortDrawn a1 Q M) : Met l yX2_sortDrawn wsX2_sortDrawn ({ frames := 1, cells := 0, slots := 0, locals := 21 } : Room) (PcW D cI cJ ad M [.ref (ad 3), .int a1]) (QiW D cI cJ ad Q) 0 0 (Fr ad) := by
  refine entW (y := yX2_sortDrawn) (ret := some .int) (maxL := 4) (plainFor_of_name (by decide)) rfl (Nat.le_of_ble_eq_true rfl) ?_
  intro p e s m args below meth c ls S hK hr hlocks hP hS hl
  have hx := S.1
  have hb := S.2.1
  have hown := S.2.2.2.1
  have hts := S.2.2.2.2
  have i2 : ∀ w ∈ wsX20, w ∈ wsX2_sortDrawn := by decide +kernel
  have k39 := hts (.fieldLink RX2 39 "RopeLine$Place" "sorts" "I") (by decide +kernel)
  have k9 := hts (.fieldLink RX2 9 "RopeLine$Place" "twelfths" "[I") (by decide +kernel)
  have hl : lv_has ls 4 [(0, .ref (ad 3)), (1, .int a1)] := hl
  unfold wX2_sortDrawn at hF
  refine lv_iconst (v := 0) hx hb dX2_sortDrawn_0 (by decide) ?_
  refine lv_istore_n (lv' := [(2, .int (0 : Int32)), (0, .ref (ad 3)), (1, .int a1)]) hx hb dX2_sortDrawn_1 rfl hl (by decide) rfl (fun ls hl => ?_)
  refine lv_iconst (v := 0) hx hb dX2_sortDrawn_2 (by decide) ?_
  refine lv_istore_n (lv' := [(3, .int (0 : Int32)), (2, .int (0 : Int32)), (0, .ref (ad 3)), (1, .int a1)]) hx hb dX2_sortDrawn_3 rfl hl (by decide) rfl (fun ls hl => ?_)
  have key_4 : ∀ (x2_4 : Int32) (x3_4 : Int32) (m4 : Mm), (lX2_sortDrawn_4 a1 Q x2_4 x3_4 m4) → Wc p l e ({ frames := 1, cells := 0, slots := 0, locals := 21 } : Room) s m args below meth c D cI cJ ad (MQ below (QiW D cI cJ ad Q) args s 0 0 (Fr ad)) 4 4 [(0, .ref (ad 3)), (1, .int a1), (2, .int x2_4), (3, .int x3_4)] m4 := by
    intro x2_4 x3_4 m4 hL
    refine hL (fun x2_4 x3_4 m4 => Wc p l e ({ frames := 1, cells := 0, slots := 0, locals := 21 } : Room) s m args below meth c D cI cJ ad (MQ below (QiW D cI cJ ad Q) args s 0 0 (Fr ad)) 4 4 [(0, .ref (ad 3)), (1, .int a1), (2, .int x2_4), (3, .int x3_4)] m4) ?_
    intro J_4 hJ_4 x2_4 x3_4 m4 hF H locs ls hP hS hl
    unfold bX2_sortDrawn_4 at hF
    refine lv_iload_n hx hb dX2_sortDrawn_4 rfl (lv_at hl 3 rfl) ?_
    refine lv_aload_n hx hb dX2_sortDrawn_5 rfl (lv_at hl 0 rfl) ?_
    refine gF S hK hP i2 e_P rfl 6 (by decide) k39 f_P_sorts dX2_sortDrawn_6 ?_
    refine lv_icmp_ge (tgt := 36) hx hb dX2_sortDrawn_9 (by decide) (fun c_1 => ?_) (fun c_1 => ?_)
    · have hF := hF.1 c_1
      refine lv_bipush (v := -9) hx hb dX2_sortDrawn_36 (by decide) ?_
      exact retI S hr hlocks hP hS hF dX2_sortDrawn_38
    · have hF := hF.2 c_1
      refine lv_iload_n hx hb dX2_sortDrawn_12 rfl (lv_at hl 2 rfl) ?_
      refine lv_aload_n hx hb dX2_sortDrawn_13 rfl (lv_at hl 0 rfl) ?_
      refine gF S hK hP i2 e_P rfl 0 (by decide) k9 f_P_twelfths dX2_sortDrawn_14 ?_
      refine lv_iload_n hx hb dX2_sortDrawn_17 rfl (lv_at hl 3 rfl) ?_
      refine goI (rSN (rest := [.int x2_4]) S hK hP (ctX6_at l D cI cJ ad had 13 rfl x3_4 _ _ hF) ⟨va_cnB 2 hts ggX2_sortDrawn_X6_at rfl rfl rfl (hK.2 _ nw_RX2_41) (hts (.initialized RX6) (by decide +kernel)) hdS_X6_at ⟨Nat.le_of_ble_eq_true rfl, Nat.le_of_ble_eq_true rfl⟩, hts (.static yX6_at) (by decide +kernel), trivial⟩ rfl hl.1 rfl (Nat.le_of_ble_eq_true rfl) dX2_sortDrawn_18 ⟨Nat.zero_le _, Nat.zero_le _⟩) hS (fun _ h => h) (fun r_2 M_2 H locs hP hS hF => ?_)
      refine lv_iadd hx hb dX2_sortDrawn_21 ?_
      refine lv_istore_n (lv' := [(2, .int (x2_4 + r_2)), (0, .ref (ad 3)), (1, .int a1), (3, .int x3_4)]) hx hb dX2_sortDrawn_22 rfl hl (by decide) rfl (fun ls hl => ?_)
      refine lv_iload_n hx hb dX2_sortDrawn_23 rfl (lv_at hl 2 rfl) ?_
      refine lv_iload_n hx hb dX2_sortDrawn_24 rfl (lv_at hl 0 rfl) ?_
      refine lv_icmp_ge (tgt := 30) hx hb dX2_sortDrawn_25 (by decide) (fun c_3 => ?_) (fun c_3 => ?_)
      · have hF := hF.1 c_3
        refine lv_iinc (v := (x3_4 + 1)) (lv' := [(3, .int (x3_4 + 1)), (2, .int (x2_4 + r_2)), (0, .ref (ad 3)), (1, .int a1)]) hx hb dX2_sortDrawn_30 hl (k := 3) rfl rfl (by decide) rfl (fun ls hl => ?_)
        refine lv_goto (tgt := 4) hx hb dX2_sortDrawn_33 (by decide) ?_
        exact hJ_4 _ _ _ hF _ _ _ hP hS (lv_sub hl [2, 3, 1, 0] rfl)
      · have hF := hF.2 c_3
        refine lv_iload_n hx hb dX2_sortDrawn_28 rfl (lv_at hl 3 rfl) ?_
        exact retI S hr hlocks hP hS hF dX2_sortDrawn_29
  exact key_4 _ _ _ hF _ _ _ hP hS (lv_sub hl [2, 3, 1, 0] rfl)
def wX3_isFull (Q : Int32 → Mm → Prop) (M : Mm) : Prop := (((gi M 23) < (40 : Int32) → (Q (0 : Int32) M)) ∧ (¬ (gi M 23) < (40 : Int32) → (Q (1 : Int32) M)))
set_option maxHeartbeats 4000000 in
set_option maxRecDepth 100000 in
theorem ctX3_isFull (l : Launch) (D : va_G) (cI cJ : ClassId) (ad : Nat → Nat) (had : inj54 ad)  (Q : Int32 → Mm → Prop) (M : Mm) (hF : wX3_isFull Q M) : Met l yX3_isFull wsX3_isFull ({ frames := 0, cells := 0, slots := 0, locals := 0 } : Room) (PcW D cI cJ ad M [.ref (ad 6)]) (QzW D cI cJ ad Q) 0 0 (Fr ad) := by
  refine entW (y := yX3_isFull) (ret := some .boolean) (maxL := 1) (plainFor_of_name (by decide)) rfl (Nat.le_of_ble_eq_true rfl) ?_
  intro p e s m args below meth c ls S hK hr hlocks hP hS hl
  have hx := S.1
  have hb := S.2.1
  have hown := S.2.2.2.1
  have hts := S.2.2.2.2
  have i3 : ∀ w ∈ wsX30, w ∈ wsX3_isFull := by decide +kernel
  have k30 := hts (.fieldLink RX3 30 "RopeLine$Queue" "comers" "I") (by decide +kernel)
  have hl : lv_has ls 1 [(0, .ref (ad 6))] := hl
  unfold wX3_isFull at hF
  refine lv_aload_n hx hb dX3_isFull_0 rfl (lv_at hl 0 rfl) ?_
  refine gF S hK hP i3 e_Q rfl 6 (by decide) k30 f_Q_comers dX3_isFull_1 ?_
  refine lv_bipush (v := 40) hx hb dX3_isFull_4 (by decide) ?_
  refine lv_icmp_lt (tgt := 13) hx hb dX3_isFull_6 (by decide) (fun c_1 => ?_) (fun c_1 => ?_)
  · have hF := hF.1 c_1
    refine lv_iconst (v := 0) hx hb dX3_isFull_13 (by decide) ?_
    exact retZ S hr hlocks hP hS rfl hF dX3_isFull_14
  · have hF := hF.2 c_1
    refine lv_iconst (v := 1) hx hb dX3_isFull_9 (by decide) ?_
    refine lv_goto (tgt := 14) hx hb dX3_isFull_10 (by decide) ?_
    exact retZ S hr hlocks hP hS rfl hF dX3_isFull_14
def bX3_allWait_2 (Q : Mm → Prop) (J_2 : Int32 → Mm → Prop) (x1_2 : Int32) (m2 : Mm) : Prop := (((gi m2 24) ≤ x1_2 → (Q m2)) ∧ (¬ (gi m2 24) ≤ x1_2 → (wX6_at 31 x1_2 (fun r_2 M_2 => (wX6_at 28 r_2 (fun r_3 M_3 => (wX6_set 28 r_2 (r_3 + (1 : Int32)) (fun M_4 => (J_2 (x1_2 + 1) M_4)) M_3)) M_2)) m2)))
def lX3_allWait_2 (Q : Mm → Prop) (x1_2 : Int32) (m2 : Mm) : Prop := ∀ I : Int32 → Mm → Prop, (∀ J : Int32 → Mm → Prop, (∀ (x1_2 : Int32) (m : Mm), J x1_2 m → I x1_2 m) → ∀ (x1_2 : Int32) (m : Mm), bX3_allWait_2 Q J x1_2 m → I x1_2 m) → I x1_2 m2
theorem lX3_allWait_2_mk (Q : Mm → Prop) (x1_2 : Int32) (m2 : Mm) (h : bX3_allWait_2 Q (lX3_allWait_2 Q) x1_2 m2) : lX3_allWait_2 Q x1_2 m2 := fun I hI => hI (lX3_allWait_2 Q) (fun _ _ q => q I hI) _ _ h
def wX3_allWait (Q : Mm → Prop) (M : Mm) : Prop := (lX3_allWait_2 Q (0 : Int32) M)
set_option maxHeartbeats 4000000 in
set_option maxRecDepth 100000 in
theorem ctX3_allWait (l : Launch) (D : va_G) (cI cJ : ClassId) (ad : Nat → Nat) (had : inj54 ad)  (Q : Mm → Prop) (M : Mm) (hF : wX3_allWait Q M) : Met l yX3_allWait wsX3_allWait ({ frames := 1, cells := 0, slots := 0, locals := 22 } : Room) (PcW D cI cJ ad M [.ref (ad 6)]) (QvW D cI cJ ad Q) 0 0 (Fr ad) := by
  refine entW (y := yX3_allWait) (ret := none) (maxL := 3) (plainFor_of_name (by decide)) rfl (Nat.le_of_ble_eq_true rfl) ?_
  intro p e s m args below meth c ls S hK hr hlocks hP hS hl
  have hx := S.1
  have hb := S.2.1
  have hown := S.2.2.2.1
  have hts := S.2.2.2.2
  have i3 : ∀ w ∈ wsX30, w ∈ wsX3_allWait := by decide +kernel
  have k34 := hts (.fieldLink RX3 34 "RopeLine$Queue" "standing" "I") (by decide +kernel)
  have k27 := hts (.fieldLink RX3 27 "RopeLine$Queue" "row" "[I") (by decide +kernel)
  have k18 := hts (.fieldLink RX3 18 "RopeLine$Queue" "waited" "[I") (by decide +kernel)
  have hl : lv_has ls 3 [(0, .ref (ad 6))] := hl
  unfold wX3_allWait at hF
  refine lv_iconst (v := 0) hx hb dX3_allWait_0 (by decide) ?_
  refine lv_istore_n (lv' := [(1, .int (0 : Int32)), (0, .ref (ad 6))]) hx hb dX3_allWait_1 rfl hl (by decide) rfl (fun ls hl => ?_)
  have key_2 : ∀ (x1_2 : Int32) (m2 : Mm), (lX3_allWait_2 Q x1_2 m2) → Wc p l e ({ frames := 1, cells := 0, slots := 0, locals := 22 } : Room) s m args below meth c D cI cJ ad (MQ below (QvW D cI cJ ad Q) args s 0 0 (Fr ad)) 3 2 [(0, .ref (ad 6)), (1, .int x1_2)] m2 := by
    intro x1_2 m2 hL
    refine hL (fun x1_2 m2 => Wc p l e ({ frames := 1, cells := 0, slots := 0, locals := 22 } : Room) s m args below meth c D cI cJ ad (MQ below (QvW D cI cJ ad Q) args s 0 0 (Fr ad)) 3 2 [(0, .ref (ad 6)), (1, .int x1_2)] m2) ?_
    intro J_2 hJ_2 x1_2 m2 hF H locs ls hP hS hl
    unfold bX3_allWait_2 at hF
    refine lv_iload_n hx hb dX3_allWait_2 rfl (lv_at hl 1 rfl) ?_
    refine lv_aload_n hx hb dX3_allWait_3 rfl (lv_at hl 0 rfl) ?_
    refine gF S hK hP i3 e_Q rfl 7 (by decide) k34 f_Q_standing dX3_allWait_4 ?_
    refine lv_icmp_ge (tgt := 43) hx hb dX3_allWait_7 (by decide) (fun c_1 => ?_) (fun c_1 => ?_)
    · have hF := hF.1 c_1
      exact retV S hr hlocks hP hS hF dX3_allWait_43
    · have hF := hF.2 c_1
      refine lv_aload_n hx hb dX3_allWait_10 rfl (lv_at hl 0 rfl) ?_
      refine gF S hK hP i3 e_Q rfl 5 (by decide) k27 f_Q_row dX3_allWait_11 ?_
      refine lv_iload_n hx hb dX3_allWait_14 rfl (lv_at hl 1 rfl) ?_
      refine goI (rSN (rest := []) S hK hP (ctX6_at l D cI cJ ad had 31 rfl x1_2 _ _ hF) ⟨va_cnB 2 hts ggX3_allWait_X6_at rfl rfl rfl (hK.2 _ nw_RX3_44) (hts (.initialized RX6) (by decide +kernel)) hdS_X6_at ⟨Nat.le_of_ble_eq_true rfl, Nat.le_of_ble_eq_true rfl⟩, hts (.static yX6_at) (by decide +kernel), trivial⟩ rfl hl.1 rfl (Nat.le_of_ble_eq_true rfl) dX3_allWait_15 ⟨Nat.zero_le _, Nat.zero_le _⟩) hS (fun _ h => h) (fun r_2 M_2 H locs hP hS hF => ?_)
      refine lv_istore_n (lv' := [(2, .int r_2), (0, .ref (ad 6)), (1, .int x1_2)]) hx hb dX3_allWait_18 rfl hl (by decide) rfl (fun ls hl => ?_)
      refine lv_aload_n hx hb dX3_allWait_19 rfl (lv_at hl 1 rfl) ?_
      refine gF S hK hP i3 e_Q rfl 2 (by decide) k18 f_Q_waited dX3_allWait_20 ?_
      refine lv_iload_n hx hb dX3_allWait_23 rfl (lv_at hl 0 rfl) ?_
      refine lv_aload_n hx hb dX3_allWait_24 rfl (lv_at hl 1 rfl) ?_
      refine gF S hK hP i3 e_Q rfl 2 (by decide) k18 f_Q_waited dX3_allWait_25 ?_
      refine lv_iload_n hx hb dX3_allWait_28 rfl (lv_at hl 0 rfl) ?_
      refine goI (rSN (rest := [.int r_2, .ref (ad 28)]) S hK hP (ctX6_at l D cI cJ ad had 28 rfl r_2 _ _ hF) ⟨va_cnB 2 hts ggX3_allWait_X6_at rfl rfl rfl (hK.2 _ nw_RX3_44) (hts (.initialized RX6) (by decide +kernel)) hdS_X6_at ⟨Nat.le_of_ble_eq_true rfl, Nat.le_of_ble_eq_true rfl⟩, hts (.static yX6_at) (by decide +kernel), trivial⟩ rfl hl.1 rfl (Nat.le_of_ble_eq_true rfl) dX3_allWait_29 ⟨Nat.zero_le _, Nat.zero_le _⟩) hS (fun _ h => h) (fun r_3 M_3 H locs hP hS hF => ?_)
      refine lv_iconst (v := 1) hx hb dX3_allWait_32 (by decide) ?_
      refine lv_iadd hx hb dX3_allWait_33 ?_
      refine goV (rSN (rest := []) S hK hP (ctX6_set l D cI cJ ad had 28 rfl r_2 (r_3 + (1 : Int32)) _ _ hF) ⟨va_cnB 3 hts ggX3_allWait_X6_set rfl rfl rfl (hK.2 _ nw_RX3_48) (hts (.initialized RX6) (by decide +kernel)) hdS_X6_set ⟨Nat.le_of_ble_eq_true rfl, Nat.le_of_ble_eq_true rfl⟩, hts (.static yX6_set) (by decide +kernel), trivial⟩ rfl hl.1 rfl (Nat.le_of_ble_eq_true rfl) dX3_allWait_34 ⟨Nat.zero_le _, Nat.zero_le _⟩) hS (fun _ h => h) (fun M_4 H locs hP hS hF => ?_)
      refine lv_iinc (v := (x1_2 + 1)) (lv' := [(1, .int (x1_2 + 1)), (2, .int r_2), (0, .ref (ad 6))]) hx hb dX3_allWait_37 hl (k := 2) rfl rfl (by decide) rfl (fun ls hl => ?_)
      refine lv_goto (tgt := 2) hx hb dX3_allWait_40 (by decide) ?_
      exact hJ_2 _ _ hF _ _ _ hP hS (lv_sub hl [2, 0] rfl)
  exact key_2 _ _ hF _ _ _ hP hS (lv_sub hl [1, 0] rfl)
def wX3_worthOf (a1 : Int32) (Q : Int32 → Mm → Prop) (M : Mm) : Prop := (wX6_at 31 a1 (fun r_1 M_1 => (wX6_at 27 r_1 (fun r_2 M_2 => (wX6_at 14 r_2 (fun r_3 M_3 => (Q r_3 M_3)) M_2)) M_1)) M)
set_option maxHeartbeats 4000000 in
set_option maxRecDepth 100000 in
theorem ctX3_worthOf (l : Launch) (D : va_G) (cI cJ : ClassId) (ad : Nat → Nat) (had : inj54 ad) (a1 : Int32) (Q : Int32 → Mm → Prop) (M : Mm) (hF : wX3_worthOf a1 Q M) : Met l yX3_worthOf wsX3_worthOf ({ frames := 1, cells := 0, slots := 0, locals := 21 } : Room) (PcW D cI cJ ad M [.ref (ad 6), .int a1, .ref (ad 3)]) (QiW D cI cJ ad Q) 0 0 (Fr ad) := by
  refine entW (y := yX3_worthOf) (ret := some .int) (maxL := 3) (plainFor_of_name (by decide)) rfl (Nat.le_of_ble_eq_true rfl) ?_
  intro p e s m args below meth c ls S hK hr hlocks hP hS hl
  have hx := S.1
  have hb := S.2.1
  have hown := S.2.2.2.1
  have hts := S.2.2.2.2
  have i2 : ∀ w ∈ wsX20, w ∈ wsX3_worthOf := by decide +kernel
  have i3 : ∀ w ∈ wsX30, w ∈ wsX3_worthOf := by decide +kernel
  have k15 := hts (.fieldLink RX3 15 "RopeLine$Queue" "sorts" "[I") (by decide +kernel)
  have k27 := hts (.fieldLink RX3 27 "RopeLine$Queue" "row" "[I") (by decide +kernel)
  have hl : lv_has ls 3 [(0, .ref (ad 6)), (1, .int a1), (2, .ref (ad 3))] := hl
  unfold wX3_worthOf at hF
  refine lv_aload_n hx hb dX3_worthOf_0 rfl (lv_at hl 2 rfl) ?_
  refine gN S hK hP i2 e_P rfl 1 (by decide) nw_RX3_56 f_P_worths dX3_worthOf_1 ?_
  refine lv_aload_n hx hb dX3_worthOf_4 rfl (lv_at hl 0 rfl) ?_
  refine gF S hK hP i3 e_Q rfl 1 (by decide) k15 f_Q_sorts dX3_worthOf_5 ?_
  refine lv_aload_n hx hb dX3_worthOf_8 rfl (lv_at hl 0 rfl) ?_
  refine gF S hK hP i3 e_Q rfl 5 (by decide) k27 f_Q_row dX3_worthOf_9 ?_
  refine lv_iload_n hx hb dX3_worthOf_12 rfl (lv_at hl 1 rfl) ?_
  refine goI (rSN (rest := [.ref (ad 27), .ref (ad 14)]) S hK hP (ctX6_at l D cI cJ ad had 31 rfl a1 _ _ hF) ⟨va_cnB 2 hts ggX3_worthOf_X6_at rfl rfl rfl (hK.2 _ nw_RX3_44) (hts (.initialized RX6) (by decide +kernel)) hdS_X6_at ⟨Nat.le_of_ble_eq_true rfl, Nat.le_of_ble_eq_true rfl⟩, hts (.static yX6_at) (by decide +kernel), trivial⟩ rfl hl.1 rfl (Nat.le_of_ble_eq_true rfl) dX3_worthOf_13 ⟨Nat.zero_le _, Nat.zero_le _⟩) hS (fun _ h => h) (fun r_1 M_1 H locs hP hS hF => ?_)
  refine goI (rSN (rest := [.ref (ad 14)]) S hK hP (ctX6_at l D cI cJ ad had 27 rfl r_1 _ _ hF) ⟨va_cnB 2 hts ggX3_worthOf_X6_at rfl rfl rfl (hK.2 _ nw_RX3_44) (hts (.initialized RX6) (by decide +kernel)) hdS_X6_at ⟨Nat.le_of_ble_eq_true rfl, Nat.le_of_ble_eq_true rfl⟩, hts (.static yX6_at) (by decide +kernel), trivial⟩ rfl hl.1 rfl (Nat.le_of_ble_eq_true rfl) dX3_worthOf_16 ⟨Nat.zero_le _, Nat.zero_le _⟩) hS (fun _ h => h) (fun r_2 M_2 H locs hP hS hF => ?_)
  refine goI (rSN (rest := []) S hK hP (ctX6_at l D cI cJ ad had 14 rfl r_2 _ _ hF) ⟨va_cnB 2 hts ggX3_worthOf_X6_at rfl rfl rfl (hK.2 _ nw_RX3_44) (hts (.initialized RX6) (by decide +kernel)) hdS_X6_at ⟨Nat.le_of_ble_eq_true rfl, Nat.le_of_ble_eq_true rfl⟩, hts (.static yX6_at) (by decide +kernel), trivial⟩ rfl hl.1 rfl (Nat.le_of_ble_eq_true rfl) dX3_worthOf_19 ⟨Nat.zero_le _, Nat.zero_le _⟩) hS (fun _ h => h) (fun r_3 M_3 H locs hP hS hF => ?_)
  exact retI S hr hlocks hP hS hF dX3_worthOf_22
def bX3_nextBy_23 (Q : Int32 → Mm → Prop) (J_23 : Int32 → Int32 → Mm → Prop) (x3_23 : Int32) (x4_23 : Int32) (m23 : Mm) : Prop := (((gi m23 24) ≤ x4_23 → (Q x3_23 m23)) ∧ (¬ (gi m23 24) ≤ x4_23 → (wX3_worthOf x4_23 (fun r_4 M_4 => (wX3_worthOf x3_23 (fun r_5 M_5 => ((r_4 ≤ r_5 → (J_23 x3_23 (x4_23 + 1) M_5)) ∧ (¬ r_4 ≤ r_5 → (J_23 x4_23 (x4_23 + 1) M_5)))) M_4)) m23)))
def lX3_nextBy_23 (Q : Int32 → Mm → Prop) (x3_23 : Int32) (x4_23 : Int32) (m23 : Mm) : Prop := ∀ I : Int32 → Int32 → Mm → Prop, (∀ J : Int32 → Int32 → Mm → Prop, (∀ (x3_23 : Int32) (x4_23 : Int32) (m : Mm), J x3_23 x4_23 m → I x3_23 x4_23 m) → ∀ (x3_23 : Int32) (x4_23 : Int32) (m : Mm), bX3_nextBy_23 Q J x3_23 x4_23 m → I x3_23 x4_23 m) → I x3_23 x4_23 m23
theorem lX3_nextBy_23_mk (Q : Int32 → Mm → Prop) (x3_23 : Int32) (x4_23 : Int32) (m23 : Mm) (h : bX3_nextBy_23 Q (lX3_nextBy_23 Q) x3_23 x4_23 m23) : lX3_nextBy_23 Q x3_23 x4_23 m23 := fun I hI => hI (lX3_nextBy_23 Q) (fun _ _ _ q => q I hI) _ _ _ h
def wX3_nextBy (a1 : Int32) (Q : Int32 → Mm → Prop) (M : Mm) : Prop := ((a1 = 0 → (Q (0 : Int32) M)) ∧ (¬ a1 = 0 → ((a1 = (1 : Int32) → (Q ((gi M 24) - (1 : Int32)) M)) ∧ (¬ a1 = (1 : Int32) → (lX3_nextBy_23 Q (0 : Int32) (1 : Int32) M)))))
set_option maxHeartbeats 4000000 in
set_option maxRecDepth 100000 in
theorem ctX3_nextBy (l : Launch) (D : va_G) (cI cJ : ClassId) (ad : Nat → Nat) (had : inj54 ad) (a1 : Int32) (Q : Int32 → Mm → Prop) (M : Mm) (hF : wX3_nextBy a1 Q M) : Met l yX3_nextBy wsX3_nextBy ({ frames := 2, cells := 0, slots := 0, locals := 43 } : Room) (PcW D cI cJ ad M [.ref (ad 6), .int a1, .ref (ad 3)]) (QiW D cI cJ ad Q) 0 0 (Fr ad) := by
  refine entW (y := yX3_nextBy) (ret := some .int) (maxL := 5) (plainFor_of_name (by decide)) rfl (Nat.le_of_ble_eq_true rfl) ?_
  intro p e s m args below meth c ls S hK hr hlocks hP hS hl
  have hx := S.1
  have hb := S.2.1
  have hown := S.2.2.2.1
  have hts := S.2.2.2.2
  have i3 : ∀ w ∈ wsX30, w ∈ wsX3_nextBy := by decide +kernel
  have k34 := hts (.fieldLink RX3 34 "RopeLine$Queue" "standing" "I") (by decide +kernel)
  have hl : lv_has ls 5 [(0, .ref (ad 6)), (1, .int a1), (2, .ref (ad 3))] := hl
  unfold wX3_nextBy at hF
  refine lv_iload_n hx hb dX3_nextBy_0 rfl (lv_at hl 1 rfl) ?_
  refine lv_if_ne (tgt := 6) hx hb dX3_nextBy_1 (by decide) (fun c_1 => ?_) (fun c_1 => ?_)
  · have hF := hF.2 c_1
    refine lv_iload_n hx hb dX3_nextBy_6 rfl (lv_at hl 1 rfl) ?_
    refine lv_iconst (v := 1) hx hb dX3_nextBy_7 (by decide) ?_
    refine lv_icmp_ne (tgt := 18) hx hb dX3_nextBy_8 (by decide) (fun c_2 => ?_) (fun c_2 => ?_)
    · have hF := hF.2 c_2
      refine lv_iconst (v := 0) hx hb dX3_nextBy_18 (by decide) ?_
      refine lv_istore_n (lv' := [(3, .int (0 : Int32)), (0, .ref (ad 6)), (1, .int a1), (2, .ref (ad 3))]) hx hb dX3_nextBy_19 rfl hl (by decide) rfl (fun ls hl => ?_)
      refine lv_iconst (v := 1) hx hb dX3_nextBy_20 (by decide) ?_
      refine lv_istore (lv' := [(4, .int (1 : Int32)), (3, .int (0 : Int32)), (0, .ref (ad 6)), (1, .int a1), (2, .ref (ad 3))]) hx hb dX3_nextBy_21 hl (by decide) rfl (fun ls hl => ?_)
      have key_23 : ∀ (x3_23 : Int32) (x4_23 : Int32) (m23 : Mm), (lX3_nextBy_23 Q x3_23 x4_23 m23) → Wc p l e ({ frames := 2, cells := 0, slots := 0, locals := 43 } : Room) s m args below meth c D cI cJ ad (MQ below (QiW D cI cJ ad Q) args s 0 0 (Fr ad)) 5 23 [(0, .ref (ad 6)), (2, .ref (ad 3)), (3, .int x3_23), (4, .int x4_23)] m23 := by
        intro x3_23 x4_23 m23 hL
        refine hL (fun x3_23 x4_23 m23 => Wc p l e ({ frames := 2, cells := 0, slots := 0, locals := 43 } : Room) s m args below meth c D cI cJ ad (MQ below (QiW D cI cJ ad Q) args s 0 0 (Fr ad)) 5 23 [(0, .ref (ad 6)), (2, .ref (ad 3)), (3, .int x3_23), (4, .int x4_23)] m23) ?_
        intro J_23 hJ_23 x3_23 x4_23 m23 hF H locs ls hP hS hl
        unfold bX3_nextBy_23 at hF
        refine lv_iload hx hb dX3_nextBy_23 (lv_at hl 3 rfl) ?_
        refine lv_aload_n hx hb dX3_nextBy_25 rfl (lv_at hl 0 rfl) ?_
        refine gF S hK hP i3 e_Q rfl 7 (by decide) k34 f_Q_standing dX3_nextBy_26 ?_
        refine lv_icmp_ge (tgt := 57) hx hb dX3_nextBy_29 (by decide) (fun c_3 => ?_) (fun c_3 => ?_)
        · have hF := hF.1 c_3
          refine lv_iload_n hx hb dX3_nextBy_57 rfl (lv_at hl 2 rfl) ?_
          exact retI S hr hlocks hP hS hF dX3_nextBy_58
        · have hF := hF.2 c_3
          refine lv_aload_n hx hb dX3_nextBy_32 rfl (lv_at hl 0 rfl) ?_
          refine lv_iload hx hb dX3_nextBy_33 (lv_at hl 3 rfl) ?_
          refine lv_aload_n hx hb dX3_nextBy_35 rfl (lv_at hl 1 rfl) ?_
          refine goI (rV (rest := []) S hK hP (ctX3_worthOf l D cI cJ ad had x4_23 _ _ hF) (cwV 2 hts gX3_nextBy_X3_worthOf rfl rfl rfl hdV_X3_worthOf ⟨Nat.le_of_ble_eq_true rfl, Nat.le_of_ble_eq_true rfl⟩) e_Q rfl rfl hl.1 rfl (Nat.le_of_ble_eq_true rfl) dX3_nextBy_36 ⟨Nat.zero_le _, Nat.zero_le _⟩) hS (fun _ h => h) (fun r_4 M_4 H locs hP hS hF => ?_)
          refine lv_aload_n hx hb dX3_nextBy_39 rfl (lv_at hl 0 rfl) ?_
          refine lv_iload_n hx hb dX3_nextBy_40 rfl (lv_at hl 2 rfl) ?_
          refine lv_aload_n hx hb dX3_nextBy_41 rfl (lv_at hl 1 rfl) ?_
          refine goI (rV (rest := [.int r_4]) S hK hP (ctX3_worthOf l D cI cJ ad had x3_23 _ _ hF) (cwV 2 hts gX3_nextBy_X3_worthOf rfl rfl rfl hdV_X3_worthOf ⟨Nat.le_of_ble_eq_true rfl, Nat.le_of_ble_eq_true rfl⟩) e_Q rfl rfl hl.1 rfl (Nat.le_of_ble_eq_true rfl) dX3_nextBy_42 ⟨Nat.zero_le _, Nat.zero_le _⟩) hS (fun _ h => h) (fun r_5 M_5 H locs hP hS hF => ?_)
          refine lv_icmp_le (tgt := 51) hx hb dX3_nextBy_45 (by decide) (fun c_6 => ?_) (fun c_6 => ?_)
          · have hF := hF.1 c_6
            refine lv_iinc (v := (x4_23 + 1)) (lv' := [(4, .int (x4_23 + 1)), (0, .ref (ad 6)), (2, .ref (ad 3)), (3, .int x3_23)]) hx hb dX3_nextBy_51 hl (k := 3) rfl rfl (by decide) rfl (fun ls hl => ?_)
            refine lv_goto (tgt := 23) hx hb dX3_nextBy_54 (by decide) ?_
            exact hJ_23 _ _ _ hF _ _ _ hP hS (lv_sub hl [1, 2, 3, 0] rfl)
          · have hF := hF.2 c_6
            refine lv_iload hx hb dX3_nextBy_48 (lv_at hl 3 rfl) ?_
            refine lv_istore_n (lv' := [(3, .int x4_23), (0, .ref (ad 6)), (2, .ref (ad 3)), (4, .int x4_23)]) hx hb dX3_nextBy_50 rfl hl (by decide) rfl (fun ls hl => ?_)
            refine lv_iinc (v := (x4_23 + 1)) (lv' := [(4, .int (x4_23 + 1)), (3, .int x4_23), (0, .ref (ad 6)), (2, .ref (ad 3))]) hx hb dX3_nextBy_51 hl (k := 3) rfl rfl (by decide) rfl (fun ls hl => ?_)
            refine lv_goto (tgt := 23) hx hb dX3_nextBy_54 (by decide) ?_
            exact hJ_23 _ _ _ hF _ _ _ hP hS (lv_sub hl [2, 3, 1, 0] rfl)
      exact key_23 _ _ _ hF _ _ _ hP hS (lv_sub hl [2, 4, 1, 0] rfl)
    · have hF := hF.1 c_2
      refine lv_aload_n hx hb dX3_nextBy_11 rfl (lv_at hl 0 rfl) ?_
      refine gF S hK hP i3 e_Q rfl 7 (by decide) k34 f_Q_standing dX3_nextBy_12 ?_
      refine lv_iconst (v := 1) hx hb dX3_nextBy_15 (by decide) ?_
      refine lv_isub hx hb dX3_nextBy_16 ?_
      exact retI S hr hlocks hP hS hF dX3_nextBy_17
  · have hF := hF.1 c_1
    refine lv_iconst (v := 0) hx hb dX3_nextBy_4 (by decide) ?_
    exact retI S hr hlocks hP hS hF dX3_nextBy_5
def bX3_takeOut_4 (Q : Mm → Prop) (J_4 : Int32 → Mm → Prop) (x2_4 : Int32) (m4 : Mm) : Prop := (((gi m4 24) ≤ x2_4 → (∀ M_2 : Mm, M_2 = (si m4 24 ((gi m4 24) - (1 : Int32))) → (Q M_2))) ∧ (¬ (gi m4 24) ≤ x2_4 → (wX6_at 31 x2_4 (fun r_3 M_3 => (wX6_set 31 (x2_4 - (1 : Int32)) r_3 (fun M_4 => (J_4 (x2_4 + 1) M_4)) M_3)) m4)))
def lX3_takeOut_4 (Q : Mm → Prop) (x2_4 : Int32) (m4 : Mm) : Prop := ∀ I : Int32 → Mm → Prop, (∀ J : Int32 → Mm → Prop, (∀ (x2_4 : Int32) (m : Mm), J x2_4 m → I x2_4 m) → ∀ (x2_4 : Int32) (m : Mm), bX3_takeOut_4 Q J x2_4 m → I x2_4 m) → I x2_4 m4
theorem lX3_takeOut_4_mk (Q : Mm → Prop) (x2_4 : Int32) (m4 : Mm) (h : bX3_takeOut_4 Q (lX3_takeOut_4 Q) x2_4 m4) : lX3_takeOut_4 Q x2_4 m4 := fun I hI => hI (lX3_takeOut_4 Q) (fun _ _ q => q I hI) _ _ h
def wX3_takeOut (a1 : Int32) (Q : Mm → Prop) (M : Mm) : Prop := (lX3_takeOut_4 Q (a1 + (1 : Int32)) M)
set_option maxHeartbeats 4000000 in
set_option maxRecDepth 100000 in
theorem ctX3_takeOut (l : Launch) (D : va_G) (cI cJ : ClassId) (ad : Nat → Nat) (had : inj54 ad) (a1 : Int32) (Q : Mm → Prop) (M : Mm) (hF : wX3_takeOut a1 Q M) : Met l yX3_takeOut wsX3_takeOut ({ frames := 1, cells := 0, slots := 0, locals := 22 } : Room) (PcW D cI cJ ad M [.ref (ad 6), .int a1]) (QvW D cI cJ ad Q) 0 0 (Fr ad) := by
  refine entW (y := yX3_takeOut) (ret := none) (maxL := 3) (plainFor_of_name (by decide)) rfl (Nat.le_of_ble_eq_true rfl) ?_
  intro p e s m args below meth c ls S hK hr hlocks hP hS hl
  have hx := S.1
  have hb := S.2.1
  have hown := S.2.2.2.1
  have hts := S.2.2.2.2
  have i3 : ∀ w ∈ wsX30, w ∈ wsX3_takeOut := by decide +kernel
  have k34 := hts (.fieldLink RX3 34 "RopeLine$Queue" "standing" "I") (by decide +kernel)
  have k27 := hts (.fieldLink RX3 27 "RopeLine$Queue" "row" "[I") (by decide +kernel)
  have hl : lv_has ls 3 [(0, .ref (ad 6)), (1, .int a1)] := hl
  unfold wX3_takeOut at hF
  refine lv_iload_n hx hb dX3_takeOut_0 rfl (lv_at hl 1 rfl) ?_
  refine lv_iconst (v := 1) hx hb dX3_takeOut_1 (by decide) ?_
  refine lv_iadd hx hb dX3_takeOut_2 ?_
  refine lv_istore_n (lv' := [(2, .int (a1 + (1 : Int32))), (0, .ref (ad 6)), (1, .int a1)]) hx hb dX3_takeOut_3 rfl hl (by decide) rfl (fun ls hl => ?_)
  have key_4 : ∀ (x2_4 : Int32) (m4 : Mm), (lX3_takeOut_4 Q x2_4 m4) → Wc p l e ({ frames := 1, cells := 0, slots := 0, locals := 22 } : Room) s m args below meth c D cI cJ ad (MQ below (QvW D cI cJ ad Q) args s 0 0 (Fr ad)) 3 4 [(0, .ref (ad 6)), (2, .int x2_4)] m4 := by
    intro x2_4 m4 hL
    refine hL (fun x2_4 m4 => Wc p l e ({ frames := 1, cells := 0, slots := 0, locals := 22 } : Room) s m args below meth c D cI cJ ad (MQ below (QvW D cI cJ ad Q) args s 0 0 (Fr ad)) 3 4 [(0, .ref (ad 6)), (2, .int x2_4)] m4) ?_
    intro J_4 hJ_4 x2_4 m4 hF H locs ls hP hS hl
    unfold bX3_takeOut_4 at hF
    refine lv_iload_n hx hb dX3_takeOut_4 rfl (lv_at hl 1 rfl) ?_
    refine lv_aload_n hx hb dX3_takeOut_5 rfl (lv_at hl 0 rfl) ?_
    refine gF S hK hP i3 e_Q rfl 7 (by decide) k34 f_Q_standing dX3_takeOut_6 ?_
    refine lv_icmp_ge (tgt := 36) hx hb dX3_takeOut_9 (by decide) (fun c_1 => ?_) (fun c_1 => ?_)
    · have hF := hF.1 c_1
      refine lv_aload_n hx hb dX3_takeOut_36 rfl (lv_at hl 0 rfl) ?_
      refine lv_dup hx hb dX3_takeOut_37 rfl ?_
      refine gF S hK hP i3 e_Q rfl 7 (by decide) k34 f_Q_standing dX3_takeOut_38 ?_
      refine lv_iconst (v := 1) hx hb dX3_takeOut_41 (by decide) ?_
      refine lv_isub hx hb dX3_takeOut_42 ?_
      refine pF S hK had hP hS i3 tyX3_ok nmX3 e_Q rfl 7 (by decide) k34 rfl rfl rfl (Nat.lt_of_lt_of_eq (by decide) len_Q.symm) s_Q_standing dX3_takeOut_43 (fun M_2 H locs eM_2 hP hS => ?_)
      have hF := hF M_2 eM_2
      exact retV S hr hlocks hP hS hF dX3_takeOut_46
    · have hF := hF.2 c_1
      refine lv_aload_n hx hb dX3_takeOut_12 rfl (lv_at hl 0 rfl) ?_
      refine gF S hK hP i3 e_Q rfl 5 (by decide) k27 f_Q_row dX3_takeOut_13 ?_
      refine lv_iload_n hx hb dX3_takeOut_16 rfl (lv_at hl 1 rfl) ?_
      refine lv_iconst (v := 1) hx hb dX3_takeOut_17 (by decide) ?_
      refine lv_isub hx hb dX3_takeOut_18 ?_
      refine lv_aload_n hx hb dX3_takeOut_19 rfl (lv_at hl 0 rfl) ?_
      refine gF S hK hP i3 e_Q rfl 5 (by decide) k27 f_Q_row dX3_takeOut_20 ?_
      refine lv_iload_n hx hb dX3_takeOut_23 rfl (lv_at hl 1 rfl) ?_
      refine goI (rSN (rest := [.int (x2_4 - (1 : Int32)), .ref (ad 31)]) S hK hP (ctX6_at l D cI cJ ad had 31 rfl x2_4 _ _ hF) ⟨va_cnB 2 hts ggX3_takeOut_X6_at rfl rfl rfl (hK.2 _ nw_RX3_44) (hts (.initialized RX6) (by decide +kernel)) hdS_X6_at ⟨Nat.le_of_ble_eq_true rfl, Nat.le_of_ble_eq_true rfl⟩, hts (.static yX6_at) (by decide +kernel), trivial⟩ rfl hl.1 rfl (Nat.le_of_ble_eq_true rfl) dX3_takeOut_24 ⟨Nat.zero_le _, Nat.zero_le _⟩) hS (fun _ h => h) (fun r_3 M_3 H locs hP hS hF => ?_)
      refine goV (rSN (rest := []) S hK hP (ctX6_set l D cI cJ ad had 31 rfl (x2_4 - (1 : Int32)) r_3 _ _ hF) ⟨va_cnB 3 hts ggX3_takeOut_X6_set rfl rfl rfl (hK.2 _ nw_RX3_48) (hts (.initialized RX6) (by decide +kernel)) hdS_X6_set ⟨Nat.le_of_ble_eq_true rfl, Nat.le_of_ble_eq_true rfl⟩, hts (.static yX6_set) (by decide +kernel), trivial⟩ rfl hl.1 rfl (Nat.le_of_ble_eq_true rfl) dX3_takeOut_27 ⟨Nat.zero_le _, Nat.zero_le _⟩) hS (fun _ h => h) (fun M_4 H locs hP hS hF => ?_)
      refine lv_iinc (v := (x2_4 + 1)) (lv' := [(2, .int (x2_4 + 1)), (0, .ref (ad 6))]) hx hb dX3_takeOut_30 hl (k := 1) rfl rfl (by decide) rfl (fun ls hl => ?_)
      refine lv_goto (tgt := 4) hx hb dX3_takeOut_33 (by decide) ?_
      exact hJ_4 _ _ hF _ _ _ hP hS (lv_sub hl [1, 0] rfl)
  exact key_4 _ _ hF _ _ _ hP hS (lv_sub hl [1, 0] rfl)
def wX3_serve (a1 : Int32) (Q : Int32 → Mm → Prop) (M : Mm) : Prop := (wX6_at 31 a1 (fun r_1 M_1 => (wX3_takeOut a1 (fun M_2 => (wX6_set 26 r_1 (2 : Int32) (fun M_3 => (wX6_set 30 r_1 (gi M_3 25) (fun M_4 => (Q r_1 M_4)) M_3)) M_2)) M_1)) M)
set_option maxHeartbeats 4000000 in
set_option maxRecDepth 100000 in
theorem ctX3_serve (l : Launch) (D : va_G) (cI cJ : ClassId) (ad : Nat → Nat) (had : inj54 ad) (a1 : Int32) (Q : Int32 → Mm → Prop) (M : Mm) (hF : wX3_serve a1 Q M) : Met l yX3_serve wsX3_serve ({ frames := 2, cells := 0, slots := 0, locals := 44 } : Room) (PcW D cI cJ ad M [.ref (ad 6), .int a1]) (QiW D cI cJ ad Q) 0 0 (Fr ad) := by
  refine entW (y := yX3_serve) (ret := some .int) (maxL := 3) (plainFor_of_name (by decide)) rfl (Nat.le_of_ble_eq_true rfl) ?_
  intro p e s m args below meth c ls S hK hr hlocks hP hS hl
  have hx := S.1
  have hb := S.2.1
  have hown := S.2.2.2.1
  have hts := S.2.2.2.2
  have i3 : ∀ w ∈ wsX30, w ∈ wsX3_serve := by decide +kernel
  have k27 := hts (.fieldLink RX3 27 "RopeLine$Queue" "row" "[I") (by decide +kernel)
  have k9 := hts (.fieldLink RX3 9 "RopeLine$Queue" "kinds" "[I") (by decide +kernel)
  have k24 := hts (.fieldLink RX3 24 "RopeLine$Queue" "servedIn" "[I") (by decide +kernel)
  have k37 := hts (.fieldLink RX3 37 "RopeLine$Queue" "minutes" "I") (by decide +kernel)
  have hl : lv_has ls 3 [(0, .ref (ad 6)), (1, .int a1)] := hl
  unfold wX3_serve at hF
  refine lv_aload_n hx hb dX3_serve_0 rfl (lv_at hl 0 rfl) ?_
  refine gF S hK hP i3 e_Q rfl 5 (by decide) k27 f_Q_row dX3_serve_1 ?_
  refine lv_iload_n hx hb dX3_serve_4 rfl (lv_at hl 1 rfl) ?_
  refine goI (rSN (rest := []) S hK hP (ctX6_at l D cI cJ ad had 31 rfl a1 _ _ hF) ⟨va_cnB 2 hts ggX3_serve_X6_at rfl rfl rfl (hK.2 _ nw_RX3_44) (hts (.initialized RX6) (by decide +kernel)) hdS_X6_at ⟨Nat.le_of_ble_eq_true rfl, Nat.le_of_ble_eq_true rfl⟩, hts (.static yX6_at) (by decide +kernel), trivial⟩ rfl hl.1 rfl (Nat.le_of_ble_eq_true rfl) dX3_serve_5 ⟨Nat.zero_le _, Nat.zero_le _⟩) hS (fun _ h => h) (fun r_1 M_1 H locs hP hS hF => ?_)
  refine lv_istore_n (lv' := [(2, .int r_1), (0, .ref (ad 6)), (1, .int a1)]) hx hb dX3_serve_8 rfl hl (by decide) rfl (fun ls hl => ?_)
  refine lv_aload_n hx hb dX3_serve_9 rfl (lv_at hl 1 rfl) ?_
  refine lv_iload_n hx hb dX3_serve_10 rfl (lv_at hl 2 rfl) ?_
  refine goV (rV (rest := []) S hK hP (ctX3_takeOut l D cI cJ ad had a1 _ _ hF) (cwV 1 hts gX3_serve_X3_takeOut rfl rfl rfl hdV_X3_takeOut ⟨Nat.le_of_ble_eq_true rfl, Nat.le_of_ble_eq_true rfl⟩) e_Q rfl rfl hl.1 rfl (Nat.le_of_ble_eq_true rfl) dX3_serve_11 ⟨Nat.zero_le _, Nat.zero_le _⟩) hS (fun _ h => h) (fun M_2 H locs hP hS hF => ?_)
  refine lv_aload_n hx hb dX3_serve_14 rfl (lv_at hl 1 rfl) ?_
  refine gF S hK hP i3 e_Q rfl 0 (by decide) k9 f_Q_kinds dX3_serve_15 ?_
  refine lv_iload_n hx hb dX3_serve_18 rfl (lv_at hl 0 rfl) ?_
  refine lv_iconst (v := 2) hx hb dX3_serve_19 (by decide) ?_
  refine goV (rSN (rest := []) S hK hP (ctX6_set l D cI cJ ad had 26 rfl r_1 (2 : Int32) _ _ hF) ⟨va_cnB 3 hts ggX3_serve_X6_set rfl rfl rfl (hK.2 _ nw_RX3_48) (hts (.initialized RX6) (by decide +kernel)) hdS_X6_set ⟨Nat.le_of_ble_eq_true rfl, Nat.le_of_ble_eq_true rfl⟩, hts (.static yX6_set) (by decide +kernel), trivial⟩ rfl hl.1 rfl (Nat.le_of_ble_eq_true rfl) dX3_serve_20 ⟨Nat.zero_le _, Nat.zero_le _⟩) hS (fun _ h => h) (fun M_3 H locs hP hS hF => ?_)
  refine lv_aload_n hx hb dX3_serve_23 rfl (lv_at hl 1 rfl) ?_
  refine gF S hK hP i3 e_Q rfl 4 (by decide) k24 f_Q_servedIn dX3_serve_24 ?_
  refine lv_iload_n hx hb dX3_serve_27 rfl (lv_at hl 0 rfl) ?_
  refine lv_aload_n hx hb dX3_serve_28 rfl (lv_at hl 1 rfl) ?_
  refine gF S hK hP i3 e_Q rfl 8 (by decide) k37 f_Q_minutes dX3_serve_29 ?_
  refine goV (rSN (rest := []) S hK hP (ctX6_set l D cI cJ ad had 30 rfl r_1 (gi M_3 25) _ _ hF) ⟨va_cnB 3 hts ggX3_serve_X6_set rfl rfl rfl (hK.2 _ nw_RX3_48) (hts (.initialized RX6) (by decide +kernel)) hdS_X6_set ⟨Nat.le_of_ble_eq_true rfl, Nat.le_of_ble_eq_true rfl⟩, hts (.static yX6_set) (by decide +kernel), trivial⟩ rfl hl.1 rfl (Nat.le_of_ble_eq_true rfl) dX3_serve_32 ⟨Nat.zero_le _, Nat.zero_le _⟩) hS (fun _ h => h) (fun M_4 H locs hP hS hF => ?_)
  refine lv_iload_n hx hb dX3_serve_35 rfl (lv_at hl 0 rfl) ?_
  exact retI S hr hlocks hP hS hF dX3_serve_36
def wX3_comes (a1 : Int32) (a2 : Int32) (Q : Int32 → Mm → Prop) (M : Mm) : Prop := ((a2 ≤ (gi M 24) → (wX6_set 26 (gi M 23) (0 : Int32) (fun M_3 => (wX6_set 27 (gi M_3 23) a1 (fun M_4 => (wX6_set 28 (gi M_4 23) (0 : Int32) (fun M_5 => (wX6_set 29 (gi M_5 23) (gi M_5 25) (fun M_6 => (wX6_set 30 (gi M_6 23) (-9 : Int32) (fun M_7 => (∀ M_9 : Mm, M_9 = (si M_7 23 ((gi M_7 23) + (1 : Int32))) → (Q (0 : Int32) M_9))) M_6)) M_5)) M_4)) M_3)) M)) ∧ (¬ a2 ≤ (gi M 24) → (((5 : Int32) ≤ (gi M 24) → (wX6_set 26 (gi M 23) (0 : Int32) (fun M_12 => (wX6_set 27 (gi M_12 23) a1 (fun M_13 => (wX6_set 28 (gi M_13 23) (0 : Int32) (fun M_14 => (wX6_set 29 (gi M_14 23) (gi M_14 25) (fun M_15 => (wX6_set 30 (gi M_15 23) (-9 : Int32) (fun M_16 => (∀ M_18 : Mm, M_18 = (si M_16 23 ((gi M_16 23) + (1 : Int32))) → (Q (0 : Int32) M_18))) M_15)) M_14)) M_13)) M_12)) M)) ∧ (¬ (5 : Int32) ≤ (gi M 24) → (wX6_set 26 (gi M 23) (1 : Int32) (fun M_20 => (wX6_set 27 (gi M_20 23) a1 (fun M_21 => (wX6_set 28 (gi M_21 23) (0 : Int32) (fun M_22 => (wX6_set 29 (gi M_22 23) (gi M_22 25) (fun M_23 => (wX6_set 30 (gi M_23 23) (-9 : Int32) (fun M_24 => (wX6_set 31 (gi M_24 24) (gi M_24 23) (fun M_26 => (∀ M_27 : Mm, M_27 = (si M_26 24 ((gi M_26 24) + (1 : Int32))) → (∀ M_28 : Mm, M_28 = (si M_27 23 ((gi M_27 23) + (1 : Int32))) → (Q (1 : Int32) M_28)))) M_24)) M_23)) M_22)) M_21)) M_20)) M)))))
set_option maxHeartbeats 4000000 in
set_option maxRecDepth 100000 in
theorem ctX3_comes (l : Launch) (D : va_G) (cI cJ : ClassId) (ad : Nat → Nat) (had : inj54 ad) (a1 : Int32) (a2 : Int32) (Q : Int32 → Mm → Prop) (M : Mm) (hF : wX3_comes a1 a2 Q M) : Met l yX3_comes wsX3_comes ({ frames := 1, cells := 0, slots := 0, locals := 22 } : Room) (PcW D cI cJ ad M [.ref (ad 6), .int a1, .int a2]) (QzW D cI cJ ad Q) 0 0 (Fr ad) := by
  refine entW (y := yX3_comes) (ret := some .boolean) (maxL := 4) (plainFor_of_name (by decide)) rfl (Nat.le_of_ble_eq_true rfl) ?_
  intro p e s m args below meth c ls S hK hr hlocks hP hS hl
  have hx := S.1
  have hb := S.2.1
  have hown := S.2.2.2.1
  have hts := S.2.2.2.2
  have i3 : ∀ w ∈ wsX30, w ∈ wsX3_comes := by decide +kernel
  have k34 := hts (.fieldLink RX3 34 "RopeLine$Queue" "standing" "I") (by decide +kernel)
  have k9 := hts (.fieldLink RX3 9 "RopeLine$Queue" "kinds" "[I") (by decide +kernel)
  have k30 := hts (.fieldLink RX3 30 "RopeLine$Queue" "comers" "I") (by decide +kernel)
  have k15 := hts (.fieldLink RX3 15 "RopeLine$Queue" "sorts" "[I") (by decide +kernel)
  have k18 := hts (.fieldLink RX3 18 "RopeLine$Queue" "waited" "[I") (by decide +kernel)
  have k21 := hts (.fieldLink RX3 21 "RopeLine$Queue" "cameIn" "[I") (by decide +kernel)
  have k37 := hts (.fieldLink RX3 37 "RopeLine$Queue" "minutes" "I") (by decide +kernel)
  have k24 := hts (.fieldLink RX3 24 "RopeLine$Queue" "servedIn" "[I") (by decide +kernel)
  have k27 := hts (.fieldLink RX3 27 "RopeLine$Queue" "row" "[I") (by decide +kernel)
  have hl : lv_has ls 4 [(0, .ref (ad 6)), (1, .int a1), (2, .int a2)] := hl
  unfold wX3_comes at hF
  refine lv_aload_n hx hb dX3_comes_0 rfl (lv_at hl 0 rfl) ?_
  refine gF S hK hP i3 e_Q rfl 7 (by decide) k34 f_Q_standing dX3_comes_1 ?_
  refine lv_iload_n hx hb dX3_comes_4 rfl (lv_at hl 2 rfl) ?_
  refine lv_icmp_ge (tgt := 20) hx hb dX3_comes_5 (by decide) (fun c_1 => ?_) (fun c_1 => ?_)
  · have hF := hF.1 c_1
    refine lv_iconst (v := 0) hx hb dX3_comes_20 (by decide) ?_
    refine lv_istore_n (lv' := [(3, .int (0 : Int32)), (0, .ref (ad 6)), (1, .int a1), (2, .int a2)]) hx hb dX3_comes_21 rfl hl (by decide) rfl (fun ls hl => ?_)
    refine lv_aload_n hx hb dX3_comes_22 rfl (lv_at hl 1 rfl) ?_
    refine gF S hK hP i3 e_Q rfl 0 (by decide) k9 f_Q_kinds dX3_comes_23 ?_
    refine lv_aload_n hx hb dX3_comes_26 rfl (lv_at hl 1 rfl) ?_
    refine gF S hK hP i3 e_Q rfl 6 (by decide) k30 f_Q_comers dX3_comes_27 ?_
    refine lv_iload_n hx hb dX3_comes_30 rfl (lv_at hl 0 rfl) ?_
    refine lv_if_eq (tgt := 38) hx hb dX3_comes_31 (by decide) (fun _ => ?_) (fun c_2 => absurd (by decide) c_2)
    refine lv_iconst (v := 0) hx hb dX3_comes_38 (by decide) ?_
    refine goV (rSN (rest := []) S hK hP (ctX6_set l D cI cJ ad had 26 rfl (gi M 23) (0 : Int32) _ _ hF) ⟨va_cnB 3 hts ggX3_comes_X6_set rfl rfl rfl (hK.2 _ nw_RX3_48) (hts (.initialized RX6) (by decide +kernel)) hdS_X6_set ⟨Nat.le_of_ble_eq_true rfl, Nat.le_of_ble_eq_true rfl⟩, hts (.static yX6_set) (by decide +kernel), trivial⟩ rfl hl.1 rfl (Nat.le_of_ble_eq_true rfl) dX3_comes_39 ⟨Nat.zero_le _, Nat.zero_le _⟩) hS (fun _ h => h) (fun M_3 H locs hP hS hF => ?_)
    refine lv_aload_n hx hb dX3_comes_42 rfl (lv_at hl 1 rfl) ?_
    refine gF S hK hP i3 e_Q rfl 1 (by decide) k15 f_Q_sorts dX3_comes_43 ?_
    refine lv_aload_n hx hb dX3_comes_46 rfl (lv_at hl 1 rfl) ?_
    refine gF S hK hP i3 e_Q rfl 6 (by decide) k30 f_Q_comers dX3_comes_47 ?_
    refine lv_iload_n hx hb dX3_comes_50 rfl (lv_at hl 2 rfl) ?_
    refine goV (rSN (rest := []) S hK hP (ctX6_set l D cI cJ ad had 27 rfl (gi M_3 23) a1 _ _ hF) ⟨va_cnB 3 hts ggX3_comes_X6_set rfl rfl rfl (hK.2 _ nw_RX3_48) (hts (.initialized RX6) (by decide +kernel)) hdS_X6_set ⟨Nat.le_of_ble_eq_true rfl, Nat.le_of_ble_eq_true rfl⟩, hts (.static yX6_set) (by decide +kernel), trivial⟩ rfl hl.1 rfl (Nat.le_of_ble_eq_true rfl) dX3_comes_51 ⟨Nat.zero_le _, Nat.zero_le _⟩) hS (fun _ h => h) (fun M_4 H locs hP hS hF => ?_)
    refine lv_aload_n hx hb dX3_comes_54 rfl (lv_at hl 1 rfl) ?_
    refine gF S hK hP i3 e_Q rfl 2 (by decide) k18 f_Q_waited dX3_comes_55 ?_
    refine lv_aload_n hx hb dX3_comes_58 rfl (lv_at hl 1 rfl) ?_
    refine gF S hK hP i3 e_Q rfl 6 (by decide) k30 f_Q_comers dX3_comes_59 ?_
    refine lv_iconst (v := 0) hx hb dX3_comes_62 (by decide) ?_
    refine goV (rSN (rest := []) S hK hP (ctX6_set l D cI cJ ad had 28 rfl (gi M_4 23) (0 : Int32) _ _ hF) ⟨va_cnB 3 hts ggX3_comes_X6_set rfl rfl rfl (hK.2 _ nw_RX3_48) (hts (.initialized RX6) (by decide +kernel)) hdS_X6_set ⟨Nat.le_of_ble_eq_true rfl, Nat.le_of_ble_eq_true rfl⟩, hts (.static yX6_set) (by decide +kernel), trivial⟩ rfl hl.1 rfl (Nat.le_of_ble_eq_true rfl) dX3_comes_63 ⟨Nat.zero_le _, Nat.zero_le _⟩) hS (fun _ h => h) (fun M_5 H locs hP hS hF => ?_)
    refine lv_aload_n hx hb dX3_comes_66 rfl (lv_at hl 1 rfl) ?_
    refine gF S hK hP i3 e_Q rfl 3 (by decide) k21 f_Q_cameIn dX3_comes_67 ?_
    refine lv_aload_n hx hb dX3_comes_70 rfl (lv_at hl 1 rfl) ?_
    refine gF S hK hP i3 e_Q rfl 6 (by decide) k30 f_Q_comers dX3_comes_71 ?_
    refine lv_aload_n hx hb dX3_comes_74 rfl (lv_at hl 1 rfl) ?_
    refine gF S hK hP i3 e_Q rfl 8 (by decide) k37 f_Q_minutes dX3_comes_75 ?_
    refine goV (rSN (rest := []) S hK hP (ctX6_set l D cI cJ ad had 29 rfl (gi M_5 23) (gi M_5 25) _ _ hF) ⟨va_cnB 3 hts ggX3_comes_X6_set rfl rfl rfl (hK.2 _ nw_RX3_48) (hts (.initialized RX6) (by decide +kernel)) hdS_X6_set ⟨Nat.le_of_ble_eq_true rfl, Nat.le_of_ble_eq_true rfl⟩, hts (.static yX6_set) (by decide +kernel), trivial⟩ rfl hl.1 rfl (Nat.le_of_ble_eq_true rfl) dX3_comes_78 ⟨Nat.zero_le _, Nat.zero_le _⟩) hS (fun _ h => h) (fun M_6 H locs hP hS hF => ?_)
    refine lv_aload_n hx hb dX3_comes_81 rfl (lv_at hl 1 rfl) ?_
    refine gF S hK hP i3 e_Q rfl 4 (by decide) k24 f_Q_servedIn dX3_comes_82 ?_
    refine lv_aload_n hx hb dX3_comes_85 rfl (lv_at hl 1 rfl) ?_
    refine gF S hK hP i3 e_Q rfl 6 (by decide) k30 f_Q_comers dX3_comes_86 ?_
    refine lv_bipush (v := -9) hx hb dX3_comes_89 (by decide) ?_
    refine goV (rSN (rest := []) S hK hP (ctX6_set l D cI cJ ad had 30 rfl (gi M_6 23) (-9 : Int32) _ _ hF) ⟨va_cnB 3 hts ggX3_comes_X6_set rfl rfl rfl (hK.2 _ nw_RX3_48) (hts (.initialized RX6) (by decide +kernel)) hdS_X6_set ⟨Nat.le_of_ble_eq_true rfl, Nat.le_of_ble_eq_true rfl⟩, hts (.static yX6_set) (by decide +kernel), trivial⟩ rfl hl.1 rfl (Nat.le_of_ble_eq_true rfl) dX3_comes_91 ⟨Nat.zero_le _, Nat.zero_le _⟩) hS (fun _ h => h) (fun M_7 H locs hP hS hF => ?_)
    refine lv_iload_n hx hb dX3_comes_94 rfl (lv_at hl 0 rfl) ?_
    refine lv_if_eq (tgt := 123) hx hb dX3_comes_95 (by decide) (fun _ => ?_) (fun c_8 => absurd (by decide) c_8)
    refine lv_aload_n hx hb dX3_comes_123 rfl (lv_at hl 1 rfl) ?_
    refine lv_dup hx hb dX3_comes_124 rfl ?_
    refine gF S hK hP i3 e_Q rfl 6 (by decide) k30 f_Q_comers dX3_comes_125 ?_
    refine lv_iconst (v := 1) hx hb dX3_comes_128 (by decide) ?_
    refine lv_iadd hx hb dX3_comes_129 ?_
    refine pF S hK had hP hS i3 tyX3_ok nmX3 e_Q rfl 6 (by decide) k30 rfl rfl rfl (Nat.lt_of_lt_of_eq (by decide) len_Q.symm) s_Q_comers dX3_comes_130 (fun M_9 H locs eM_9 hP hS => ?_)
    have hF := hF M_9 eM_9
    refine lv_iload_n hx hb dX3_comes_133 rfl (lv_at hl 0 rfl) ?_
    exact retZ S hr hlocks hP hS rfl hF dX3_comes_134
  · have hF := hF.2 c_1
    refine lv_aload_n hx hb dX3_comes_8 rfl (lv_at hl 0 rfl) ?_
    refine gF S hK hP i3 e_Q rfl 7 (by decide) k34 f_Q_standing dX3_comes_9 ?_
    refine lv_iconst (v := 5) hx hb dX3_comes_12 (by decide) ?_
    refine lv_icmp_ge (tgt := 20) hx hb dX3_comes_13 (by decide) (fun c_10 => ?_) (fun c_10 => ?_)
    · have hF := hF.1 c_10
      refine lv_iconst (v := 0) hx hb dX3_comes_20 (by decide) ?_
      refine lv_istore_n (lv' := [(3, .int (0 : Int32)), (0, .ref (ad 6)), (1, .int a1), (2, .int a2)]) hx hb dX3_comes_21 rfl hl (by decide) rfl (fun ls hl => ?_)
      refine lv_aload_n hx hb dX3_comes_22 rfl (lv_at hl 1 rfl) ?_
      refine gF S hK hP i3 e_Q rfl 0 (by decide) k9 f_Q_kinds dX3_comes_23 ?_
      refine lv_aload_n hx hb dX3_comes_26 rfl (lv_at hl 1 rfl) ?_
      refine gF S hK hP i3 e_Q rfl 6 (by decide) k30 f_Q_comers dX3_comes_27 ?_
      refine lv_iload_n hx hb dX3_comes_30 rfl (lv_at hl 0 rfl) ?_
      refine lv_if_eq (tgt := 38) hx hb dX3_comes_31 (by decide) (fun _ => ?_) (fun c_11 => absurd (by decide) c_11)
      refine lv_iconst (v := 0) hx hb dX3_comes_38 (by decide) ?_
      refine goV (rSN (rest := []) S hK hP (ctX6_set l D cI cJ ad had 26 rfl (gi M 23) (0 : Int32) _ _ hF) ⟨va_cnB 3 hts ggX3_comes_X6_set rfl rfl rfl (hK.2 _ nw_RX3_48) (hts (.initialized RX6) (by decide +kernel)) hdS_X6_set ⟨Nat.le_of_ble_eq_true rfl, Nat.le_of_ble_eq_true rfl⟩, hts (.static yX6_set) (by decide +kernel), trivial⟩ rfl hl.1 rfl (Nat.le_of_ble_eq_true rfl) dX3_comes_39 ⟨Nat.zero_le _, Nat.zero_le _⟩) hS (fun _ h => h) (fun M_12 H locs hP hS hF => ?_)
      refine lv_aload_n hx hb dX3_comes_42 rfl (lv_at hl 1 rfl) ?_
      refine gF S hK hP i3 e_Q rfl 1 (by decide) k15 f_Q_sorts dX3_comes_43 ?_
      refine lv_aload_n hx hb dX3_comes_46 rfl (lv_at hl 1 rfl) ?_
      refine gF S hK hP i3 e_Q rfl 6 (by decide) k30 f_Q_comers dX3_comes_47 ?_
      refine lv_iload_n hx hb dX3_comes_50 rfl (lv_at hl 2 rfl) ?_
      refine goV (rSN (rest := []) S hK hP (ctX6_set l D cI cJ ad had 27 rfl (gi M_12 23) a1 _ _ hF) ⟨va_cnB 3 hts ggX3_comes_X6_set rfl rfl rfl (hK.2 _ nw_RX3_48) (hts (.initialized RX6) (by decide +kernel)) hdS_X6_set ⟨Nat.le_of_ble_eq_true rfl, Nat.le_of_ble_eq_true rfl⟩, hts (.static yX6_set) (by decide +kernel), trivial⟩ rfl hl.1 rfl (Nat.le_of_ble_eq_true rfl) dX3_comes_51 ⟨Nat.zero_le _, Nat.zero_le _⟩) hS (fun _ h => h) (fun M_13 H locs hP hS hF => ?_)
      refine lv_aload_n hx hb dX3_comes_54 rfl (lv_at hl 1 rfl) ?_
      refine gF S hK hP i3 e_Q rfl 2 (by decide) k18 f_Q_waited dX3_comes_55 ?_
      refine lv_aload_n hx hb dX3_comes_58 rfl (lv_at hl 1 rfl) ?_
      refine gF S hK hP i3 e_Q rfl 6 (by decide) k30 f_Q_comers dX3_comes_59 ?_
      refine lv_iconst (v := 0) hx hb dX3_comes_62 (by decide) ?_
      refine goV (rSN (rest := []) S hK hP (ctX6_set l D cI cJ ad had 28 rfl (gi M_13 23) (0 : Int32) _ _ hF) ⟨va_cnB 3 hts ggX3_comes_X6_set rfl rfl rfl (hK.2 _ nw_RX3_48) (hts (.initialized RX6) (by decide +kernel)) hdS_X6_set ⟨Nat.le_of_ble_eq_true rfl, Nat.le_of_ble_eq_true rfl⟩, hts (.static yX6_set) (by decide +kernel), trivial⟩ rfl hl.1 rfl (Nat.le_of_ble_eq_true rfl) dX3_comes_63 ⟨Nat.zero_le _, Nat.zero_le _⟩) hS (fun _ h => h) (fun M_14 H locs hP hS hF => ?_)
      refine lv_aload_n hx hb dX3_comes_66 rfl (lv_at hl 1 rfl) ?_
      refine gF S hK hP i3 e_Q rfl 3 (by decide) k21 f_Q_cameIn dX3_comes_67 ?_
      refine lv_aload_n hx hb dX3_comes_70 rfl (lv_at hl 1 rfl) ?_
      refine gF S hK hP i3 e_Q rfl 6 (by decide) k30 f_Q_comers dX3_comes_71 ?_
      refine lv_aload_n hx hb dX3_comes_74 rfl (lv_at hl 1 rfl) ?_
      refine gF S hK hP i3 e_Q rfl 8 (by decide) k37 f_Q_minutes dX3_comes_75 ?_
      refine goV (rSN (rest := []) S hK hP (ctX6_set l D cI cJ ad had 29 rfl (gi M_14 23) (gi M_14 25) _ _ hF) ⟨va_cnB 3 hts ggX3_comes_X6_set rfl rfl rfl (hK.2 _ nw_RX3_48) (hts (.initialized RX6) (by decide +kernel)) hdS_X6_set ⟨Nat.le_of_ble_eq_true rfl, Nat.le_of_ble_eq_true rfl⟩, hts (.static yX6_set) (by decide +kernel), trivial⟩ rfl hl.1 rfl (Nat.le_of_ble_eq_true rfl) dX3_comes_78 ⟨Nat.zero_le _, Nat.zero_le _⟩) hS (fun _ h => h) (fun M_15 H locs hP hS hF => ?_)
      refine lv_aload_n hx hb dX3_comes_81 rfl (lv_at hl 1 rfl) ?_
      refine gF S hK hP i3 e_Q rfl 4 (by decide) k24 f_Q_servedIn dX3_comes_82 ?_
      refine lv_aload_n hx hb dX3_comes_85 rfl (lv_at hl 1 rfl) ?_
      refine gF S hK hP i3 e_Q rfl 6 (by decide) k30 f_Q_comers dX3_comes_86 ?_
      refine lv_bipush (v := -9) hx hb dX3_comes_89 (by decide) ?_
      refine goV (rSN (rest := []) S hK hP (ctX6_set l D cI cJ ad had 30 rfl (gi M_15 23) (-9 : Int32) _ _ hF) ⟨va_cnB 3 hts ggX3_comes_X6_set rfl rfl rfl (hK.2 _ nw_RX3_48) (hts (.initialized RX6) (by decide +kernel)) hdS_X6_set ⟨Nat.le_of_ble_eq_true rfl, Nat.le_of_ble_eq_true rfl⟩, hts (.static yX6_set) (by decide +kernel), trivial⟩ rfl hl.1 rfl (Nat.le_of_ble_eq_true rfl) dX3_comes_91 ⟨Nat.zero_le _, Nat.zero_le _⟩) hS (fun _ h => h) (fun M_16 H locs hP hS hF => ?_)
      refine lv_iload_n hx hb dX3_comes_94 rfl (lv_at hl 0 rfl) ?_
      refine lv_if_eq (tgt := 123) hx hb dX3_comes_95 (by decide) (fun _ => ?_) (fun c_17 => absurd (by decide) c_17)
      refine lv_aload_n hx hb dX3_comes_123 rfl (lv_at hl 1 rfl) ?_
      refine lv_dup hx hb dX3_comes_124 rfl ?_
      refine gF S hK hP i3 e_Q rfl 6 (by decide) k30 f_Q_comers dX3_comes_125 ?_
      refine lv_iconst (v := 1) hx hb dX3_comes_128 (by decide) ?_
      refine lv_iadd hx hb dX3_comes_129 ?_
      refine pF S hK had hP hS i3 tyX3_ok nmX3 e_Q rfl 6 (by decide) k30 rfl rfl rfl (Nat.lt_of_lt_of_eq (by decide) len_Q.symm) s_Q_comers dX3_comes_130 (fun M_18 H locs eM_18 hP hS => ?_)
      have hF := hF M_18 eM_18
      refine lv_iload_n hx hb dX3_comes_133 rfl (lv_at hl 0 rfl) ?_
      exact retZ S hr hlocks hP hS rfl hF dX3_comes_134
    · have hF := hF.2 c_10
      refine lv_iconst (v := 1) hx hb dX3_comes_16 (by decide) ?_
      refine lv_goto (tgt := 21) hx hb dX3_comes_17 (by decide) ?_
      refine lv_istore_n (lv' := [(3, .int (1 : Int32)), (0, .ref (ad 6)), (1, .int a1), (2, .int a2)]) hx hb dX3_comes_21 rfl hl (by decide) rfl (fun ls hl => ?_)
      refine lv_aload_n hx hb dX3_comes_22 rfl (lv_at hl 1 rfl) ?_
      refine gF S hK hP i3 e_Q rfl 0 (by decide) k9 f_Q_kinds dX3_comes_23 ?_
      refine lv_aload_n hx hb dX3_comes_26 rfl (lv_at hl 1 rfl) ?_
      refine gF S hK hP i3 e_Q rfl 6 (by decide) k30 f_Q_comers dX3_comes_27 ?_
      refine lv_iload_n hx hb dX3_comes_30 rfl (lv_at hl 0 rfl) ?_
      refine lv_if_eq (tgt := 38) hx hb dX3_comes_31 (by decide) (fun c_19 => absurd c_19 (by decide)) (fun _ => ?_)
      refine lv_iconst (v := 1) hx hb dX3_comes_34 (by decide) ?_
      refine lv_goto (tgt := 39) hx hb dX3_comes_35 (by decide) ?_
      refine goV (rSN (rest := []) S hK hP (ctX6_set l D cI cJ ad had 26 rfl (gi M 23) (1 : Int32) _ _ hF) ⟨va_cnB 3 hts ggX3_comes_X6_set rfl rfl rfl (hK.2 _ nw_RX3_48) (hts (.initialized RX6) (by decide +kernel)) hdS_X6_set ⟨Nat.le_of_ble_eq_true rfl, Nat.le_of_ble_eq_true rfl⟩, hts (.static yX6_set) (by decide +kernel), trivial⟩ rfl hl.1 rfl (Nat.le_of_ble_eq_true rfl) dX3_comes_39 ⟨Nat.zero_le _, Nat.zero_le _⟩) hS (fun _ h => h) (fun M_20 H locs hP hS hF => ?_)
      refine lv_aload_n hx hb dX3_comes_42 rfl (lv_at hl 1 rfl) ?_
      refine gF S hK hP i3 e_Q rfl 1 (by decide) k15 f_Q_sorts dX3_comes_43 ?_
      refine lv_aload_n hx hb dX3_comes_46 rfl (lv_at hl 1 rfl) ?_
      refine gF S hK hP i3 e_Q rfl 6 (by decide) k30 f_Q_comers dX3_comes_47 ?_
      refine lv_iload_n hx hb dX3_comes_50 rfl (lv_at hl 2 rfl) ?_
      refine goV (rSN (rest := []) S hK hP (ctX6_set l D cI cJ ad had 27 rfl (gi M_20 23) a1 _ _ hF) ⟨va_cnB 3 hts ggX3_comes_X6_set rfl rfl rfl (hK.2 _ nw_RX3_48) (hts (.initialized RX6) (by decide +kernel)) hdS_X6_set ⟨Nat.le_of_ble_eq_true rfl, Nat.le_of_ble_eq_true rfl⟩, hts (.static yX6_set) (by decide +kernel), trivial⟩ rfl hl.1 rfl (Nat.le_of_ble_eq_true rfl) dX3_comes_51 ⟨Nat.zero_le _, Nat.zero_le _⟩) hS (fun _ h => h) (fun M_21 H locs hP hS hF => ?_)
      refine lv_aload_n hx hb dX3_comes_54 rfl (lv_at hl 1 rfl) ?_
      refine gF S hK hP i3 e_Q rfl 2 (by decide) k18 f_Q_waited dX3_comes_55 ?_
      refine lv_aload_n hx hb dX3_comes_58 rfl (lv_at hl 1 rfl) ?_
      refine gF S hK hP i3 e_Q rfl 6 (by decide) k30 f_Q_comers dX3_comes_59 ?_
      refine lv_iconst (v := 0) hx hb dX3_comes_62 (by decide) ?_
      refine goV (rSN (rest := []) S hK hP (ctX6_set l D cI cJ ad had 28 rfl (gi M_21 23) (0 : Int32) _ _ hF) ⟨va_cnB 3 hts ggX3_comes_X6_set rfl rfl rfl (hK.2 _ nw_RX3_48) (hts (.initialized RX6) (by decide +kernel)) hdS_X6_set ⟨Nat.le_of_ble_eq_true rfl, Nat.le_of_ble_eq_true rfl⟩, hts (.static yX6_set) (by decide +kernel), trivial⟩ rfl hl.1 rfl (Nat.le_of_ble_eq_true rfl) dX3_comes_63 ⟨Nat.zero_le _, Nat.zero_le _⟩) hS (fun _ h => h) (fun M_22 H locs hP hS hF => ?_)
      refine lv_aload_n hx hb dX3_comes_66 rfl (lv_at hl 1 rfl) ?_
      refine gF S hK hP i3 e_Q rfl 3 (by decide) k21 f_Q_cameIn dX3_comes_67 ?_
      refine lv_aload_n hx hb dX3_comes_70 rfl (lv_at hl 1 rfl) ?_
      refine gF S hK hP i3 e_Q rfl 6 (by decide) k30 f_Q_comers dX3_comes_71 ?_
      refine lv_aload_n hx hb dX3_comes_74 rfl (lv_at hl 1 rfl) ?_
      refine gF S hK hP i3 e_Q rfl 8 (by decide) k37 f_Q_minutes dX3_comes_75 ?_
      refine goV (rSN (rest := []) S hK hP (ctX6_set l D cI cJ ad had 29 rfl (gi M_22 23) (gi M_22 25) _ _ hF) ⟨va_cnB 3 hts ggX3_comes_X6_set rfl rfl rfl (hK.2 _ nw_RX3_48) (hts (.initialized RX6) (by decide +kernel)) hdS_X6_set ⟨Nat.le_of_ble_eq_true rfl, Nat.le_of_ble_eq_true rfl⟩, hts (.static yX6_set) (by decide +kernel), trivial⟩ rfl hl.1 rfl (Nat.le_of_ble_eq_true rfl) dX3_comes_78 ⟨Nat.zero_le _, Nat.zero_le _⟩) hS (fun _ h => h) (fun M_23 H locs hP hS hF => ?_)
      refine lv_aload_n hx hb dX3_comes_81 rfl (lv_at hl 1 rfl) ?_
      refine gF S hK hP i3 e_Q rfl 4 (by decide) k24 f_Q_servedIn dX3_comes_82 ?_
      refine lv_aload_n hx hb dX3_comes_85 rfl (lv_at hl 1 rfl) ?_
      refine gF S hK hP i3 e_Q rfl 6 (by decide) k30 f_Q_comers dX3_comes_86 ?_
      refine lv_bipush (v := -9) hx hb dX3_comes_89 (by decide) ?_
      refine goV (rSN (rest := []) S hK hP (ctX6_set l D cI cJ ad had 30 rfl (gi M_23 23) (-9 : Int32) _ _ hF) ⟨va_cnB 3 hts ggX3_comes_X6_set rfl rfl rfl (hK.2 _ nw_RX3_48) (hts (.initialized RX6) (by decide +kernel)) hdS_X6_set ⟨Nat.le_of_ble_eq_true rfl, Nat.le_of_ble_eq_true rfl⟩, hts (.static yX6_set) (by decide +kernel), trivial⟩ rfl hl.1 rfl (Nat.le_of_ble_eq_true rfl) dX3_comes_91 ⟨Nat.zero_le _, Nat.zero_le _⟩) hS (fun _ h => h) (fun M_24 H locs hP hS hF => ?_)
      refine lv_iload_n hx hb dX3_comes_94 rfl (lv_at hl 0 rfl) ?_
      refine lv_if_eq (tgt := 123) hx hb dX3_comes_95 (by decide) (fun c_25 => absurd c_25 (by decide)) (fun _ => ?_)
      refine lv_aload_n hx hb dX3_comes_98 rfl (lv_at hl 1 rfl) ?_
      refine gF S hK hP i3 e_Q rfl 5 (by decide) k27 f_Q_row dX3_comes_99 ?_
      refine lv_aload_n hx hb dX3_comes_102 rfl (lv_at hl 1 rfl) ?_
      refine gF S hK hP i3 e_Q rfl 7 (by decide) k34 f_Q_standing dX3_comes_103 ?_
      refine lv_aload_n hx hb dX3_comes_106 rfl (lv_at hl 1 rfl) ?_
      refine gF S hK hP i3 e_Q rfl 6 (by decide) k30 f_Q_comers dX3_comes_107 ?_
      refine goV (rSN (rest := []) S hK hP (ctX6_set l D cI cJ ad had 31 rfl (gi M_24 24) (gi M_24 23) _ _ hF) ⟨va_cnB 3 hts ggX3_comes_X6_set rfl rfl rfl (hK.2 _ nw_RX3_48) (hts (.initialized RX6) (by decide +kernel)) hdS_X6_set ⟨Nat.le_of_ble_eq_true rfl, Nat.le_of_ble_eq_true rfl⟩, hts (.static yX6_set) (by decide +kernel), trivial⟩ rfl hl.1 rfl (Nat.le_of_ble_eq_true rfl) dX3_comes_110 ⟨Nat.zero_le _, Nat.zero_le _⟩) hS (fun _ h => h) (fun M_26 H locs hP hS hF => ?_)
      refine lv_aload_n hx hb dX3_comes_113 rfl (lv_at hl 1 rfl) ?_
      refine lv_dup hx hb dX3_comes_114 rfl ?_
      refine gF S hK hP i3 e_Q rfl 7 (by decide) k34 f_Q_standing dX3_comes_115 ?_
      refine lv_iconst (v := 1) hx hb dX3_comes_118 (by decide) ?_
      refine lv_iadd hx hb dX3_comes_119 ?_
      refine pF S hK had hP hS i3 tyX3_ok nmX3 e_Q rfl 7 (by decide) k34 rfl rfl rfl (Nat.lt_of_lt_of_eq (by decide) len_Q.symm) s_Q_standing dX3_comes_120 (fun M_27 H locs eM_27 hP hS => ?_)
      have hF := hF M_27 eM_27
      refine lv_aload_n hx hb dX3_comes_123 rfl (lv_at hl 1 rfl) ?_
      refine lv_dup hx hb dX3_comes_124 rfl ?_
      refine gF S hK hP i3 e_Q rfl 6 (by decide) k30 f_Q_comers dX3_comes_125 ?_
      refine lv_iconst (v := 1) hx hb dX3_comes_128 (by decide) ?_
      refine lv_iadd hx hb dX3_comes_129 ?_
      refine pF S hK had hP hS i3 tyX3_ok nmX3 e_Q rfl 6 (by decide) k30 rfl rfl rfl (Nat.lt_of_lt_of_eq (by decide) len_Q.symm) s_Q_comers dX3_comes_130 (fun M_28 H locs eM_28 hP hS => ?_)
      have hF := hF M_28 eM_28
      refine lv_iload_n hx hb dX3_comes_133 rfl (lv_at hl 0 rfl) ?_
      exact retZ S hr hlocks hP hS rfl hF dX3_comes_134
def wX3_has (a1 : Int32) (Q : Int32 → Mm → Prop) (M : Mm) : Prop := (wX6_isWithin a1 (0 : Int32) ((gi M 23) - (1 : Int32)) (fun r_1 M_1 => (Q r_1 M_1)) M)
set_option maxHeartbeats 4000000 in
set_option maxRecDepth 100000 in
theorem ctX3_has (l : Launch) (D : va_G) (cI cJ : ClassId) (ad : Nat → Nat) (had : inj54 ad) (a1 : Int32) (Q : Int32 → Mm → Prop) (M : Mm) (hF : wX3_has a1 Q M) : Met l yX3_has wsX3_has ({ frames := 1, cells := 0, slots := 0, locals := 22 } : Room) (PcW D cI cJ ad M [.ref (ad 6), .int a1]) (QzW D cI cJ ad Q) 0 0 (Fr ad) := by
  refine entW (y := yX3_has) (ret := some .boolean) (maxL := 2) (plainFor_of_name (by decide)) rfl (Nat.le_of_ble_eq_true rfl) ?_
  intro p e s m args below meth c ls S hK hr hlocks hP hS hl
  have hx := S.1
  have hb := S.2.1
  have hown := S.2.2.2.1
  have hts := S.2.2.2.2
  have i3 : ∀ w ∈ wsX30, w ∈ wsX3_has := by decide +kernel
  have k30 := hts (.fieldLink RX3 30 "RopeLine$Queue" "comers" "I") (by decide +kernel)
  have hl : lv_has ls 2 [(0, .ref (ad 6)), (1, .int a1)] := hl
  unfold wX3_has at hF
  refine lv_iload_n hx hb dX3_has_0 rfl (lv_at hl 1 rfl) ?_
  refine lv_iconst (v := 0) hx hb dX3_has_1 (by decide) ?_
  refine lv_aload_n hx hb dX3_has_2 rfl (lv_at hl 0 rfl) ?_
  refine gF S hK hP i3 e_Q rfl 6 (by decide) k30 f_Q_comers dX3_has_3 ?_
  refine lv_iconst (v := 1) hx hb dX3_has_6 (by decide) ?_
  refine lv_isub hx hb dX3_has_7 ?_
  refine goZ (rSN (rest := []) S hK hP (ctX6_isWithin l D cI cJ ad had a1 (0 : Int32) ((gi M 23) - (1 : Int32)) _ _ hF) ⟨va_cnB 3 hts ggX3_has_X6_isWithin rfl rfl rfl (hK.2 _ nw_RX3_40) (hts (.initialized RX6) (by decide +kernel)) hdS_X6_isWithin ⟨Nat.le_of_ble_eq_true rfl, Nat.le_of_ble_eq_true rfl⟩, hts (.static yX6_isWithin) (by decide +kernel), trivial⟩ rfl hl.1 rfl (Nat.le_of_ble_eq_true rfl) dX3_has_8 ⟨Nat.zero_le _, Nat.zero_le _⟩) hS (fun _ h => h) (fun r_1 M_1 H locs hP hS hz_r_1 hF => ?_)
  exact retZ S hr hlocks hP hS hz_r_1 hF dX3_has_11
def bX3_placeOf_2 (a1 : Int32) (Q : Int32 → Mm → Prop) (J_2 : Int32 → Mm → Prop) (x2_2 : Int32) (m2 : Mm) : Prop := (((gi m2 24) ≤ x2_2 → (Q (-9 : Int32) m2)) ∧ (¬ (gi m2 24) ≤ x2_2 → (wX6_at 31 x2_2 (fun r_2 M_2 => ((r_2 = a1 → (Q x2_2 M_2)) ∧ (¬ r_2 = a1 → (J_2 (x2_2 + 1) M_2)))) m2)))
def lX3_placeOf_2 (a1 : Int32) (Q : Int32 → Mm → Prop) (x2_2 : Int32) (m2 : Mm) : Prop := ∀ I : Int32 → Mm → Prop, (∀ J : Int32 → Mm → Prop, (∀ (x2_2 : Int32) (m : Mm), J x2_2 m → I x2_2 m) → ∀ (x2_2 : Int32) (m : Mm), bX3_placeOf_2 a1 Q J x2_2 m → I x2_2 m) → I x2_2 m2
theorem lX3_placeOf_2_mk (a1 : Int32) (Q : Int32 → Mm → Prop) (x2_2 : Int32) (m2 : Mm) (h : bX3_placeOf_2 a1 Q (lX3_placeOf_2 a1 Q) x2_2 m2) : lX3_placeOf_2 a1 Q x2_2 m2 := fun I hI => hI (lX3_placeOf_2 a1 Q) (fun _ _ q => q I hI) _ _ h
def wX3_placeOf (a1 : Int32) (Q : Int32 → Mm → Prop) (M : Mm) : Prop := (lX3_placeOf_2 a1 Q (0 : Int32) M)
set_option maxHeartbeats 4000000 in
set_option maxRecDepth 100000 in
theorem ctX3_placeOf (l : Launch) (D : va_G) (cI cJ : ClassId) (ad : Nat → Nat) (had : inj54 ad) (a1 : Int32) (Q : Int32 → Mm → Prop) (M : Mm) (hF : wX3_placeOf a1 Q M) : Met l yX3_placeOf wsX3_placeOf ({ frames := 1, cells := 0, slots := 0, locals := 21 } : Room) (PcW D cI cJ ad M [.ref (ad 6), .int a1]) (QiW D cI cJ ad Q) 0 0 (Fr ad) := by
  refine entW (y := yX3_placeOf) (ret := some .int) (maxL := 3) (plainFor_of_name (by decide)) rfl (Nat.le_of_ble_eq_true rfl) ?_
  intro p e s m args below meth c ls S hK hr hlocks hP hS hl
  have hx := S.1
  have hb := S.2.1
  have hown := S.2.2.2.1
  have hts := S.2.2.2.2
  have i3 : ∀ w ∈ wsX30, w ∈ wsX3_placeOf := by decide +kernel
  have k34 := hts (.fieldLink RX3 34 "RopeLine$Queue" "standing" "I") (by decide +kernel)
  have k27 := hts (.fieldLink RX3 27 "RopeLine$Queue" "row" "[I") (by decide +kernel)
  have hl : lv_has ls 3 [(0, .ref (ad 6)), (1, .int a1)] := hl
  unfold wX3_placeOf at hF
  refine lv_iconst (v := 0) hx hb dX3_placeOf_0 (by decide) ?_
  refine lv_istore_n (lv' := [(2, .int (0 : Int32)), (0, .ref (ad 6)), (1, .int a1)]) hx hb dX3_placeOf_1 rfl hl (by decide) rfl (fun ls hl => ?_)
  have key_2 : ∀ (x2_2 : Int32) (m2 : Mm), (lX3_placeOf_2 a1 Q x2_2 m2) → Wc p l e ({ frames := 1, cells := 0, slots := 0, locals := 21 } : Room) s m args below meth c D cI cJ ad (MQ below (QiW D cI cJ ad Q) args s 0 0 (Fr ad)) 3 2 [(0, .ref (ad 6)), (1, .int a1), (2, .int x2_2)] m2 := by
    intro x2_2 m2 hL
    refine hL (fun x2_2 m2 => Wc p l e ({ frames := 1, cells := 0, slots := 0, locals := 21 } : Room) s m args below meth c D cI cJ ad (MQ below (QiW D cI cJ ad Q) args s 0 0 (Fr ad)) 3 2 [(0, .ref (ad 6)), (1, .int a1), (2, .int x2_2)] m2) ?_
    intro J_2 hJ_2 x2_2 m2 hF H locs ls hP hS hl
    unfold bX3_placeOf_2 at hF
    refine lv_iload_n hx hb dX3_placeOf_2 rfl (lv_at hl 2 rfl) ?_
    refine lv_aload_n hx hb dX3_placeOf_3 rfl (lv_at hl 0 rfl) ?_
    refine gF S hK hP i3 e_Q rfl 7 (by decide) k34 f_Q_standing dX3_placeOf_4 ?_
    refine lv_icmp_ge (tgt := 30) hx hb dX3_placeOf_7 (by decide) (fun c_1 => ?_) (fun c_1 => ?_)
    · have hF := hF.1 c_1
      refine lv_bipush (v := -9) hx hb dX3_placeOf_30 (by decide) ?_
      exact retI S hr hlocks hP hS hF dX3_placeOf_32
    · have hF := hF.2 c_1
      refine lv_aload_n hx hb dX3_placeOf_10 rfl (lv_at hl 0 rfl) ?_
      refine gF S hK hP i3 e_Q rfl 5 (by decide) k27 f_Q_row dX3_placeOf_11 ?_
      refine lv_iload_n hx hb dX3_placeOf_14 rfl (lv_at hl 2 rfl) ?_
      refine goI (rSN (rest := []) S hK hP (ctX6_at l D cI cJ ad had 31 rfl x2_2 _ _ hF) ⟨va_cnB 2 hts ggX3_placeOf_X6_at rfl rfl rfl (hK.2 _ nw_RX3_44) (hts (.initialized RX6) (by decide +kernel)) hdS_X6_at ⟨Nat.le_of_ble_eq_true rfl, Nat.le_of_ble_eq_true rfl⟩, hts (.static yX6_at) (by decide +kernel), trivial⟩ rfl hl.1 rfl (Nat.le_of_ble_eq_true rfl) dX3_placeOf_15 ⟨Nat.zero_le _, Nat.zero_le _⟩) hS (fun _ h => h) (fun r_2 M_2 H locs hP hS hF => ?_)
      refine lv_iload_n hx hb dX3_placeOf_18 rfl (lv_at hl 1 rfl) ?_
      refine lv_icmp_ne (tgt := 24) hx hb dX3_placeOf_19 (by decide) (fun c_3 => ?_) (fun c_3 => ?_)
      · have hF := hF.2 c_3
        refine lv_iinc (v := (x2_2 + 1)) (lv' := [(2, .int (x2_2 + 1)), (0, .ref (ad 6)), (1, .int a1)]) hx hb dX3_placeOf_24 hl (k := 2) rfl rfl (by decide) rfl (fun ls hl => ?_)
        refine lv_goto (tgt := 2) hx hb dX3_placeOf_27 (by decide) ?_
        exact hJ_2 _ _ hF _ _ _ hP hS (lv_sub hl [1, 2, 0] rfl)
      · have hF := hF.1 c_3
        refine lv_iload_n hx hb dX3_placeOf_22 rfl (lv_at hl 2 rfl) ?_
        exact retI S hr hlocks hP hS hF dX3_placeOf_23
  exact key_2 _ _ hF _ _ _ hP hS (lv_sub hl [1, 2, 0] rfl)
def wX3_envies (a1 : Int32) (a2 : Int32) (Q : Int32 → Mm → Prop) (M : Mm) : Prop := (wX6_at 26 a1 (fun r_1 M_1 => ((r_1 = (2 : Int32) → (wX6_at 26 a2 (fun r_3 M_3 => ((r_3 = (2 : Int32) → (wX6_at 30 a1 (fun r_5 M_5 => (wX6_at 30 a2 (fun r_6 M_6 => ((r_5 ≤ r_6 → (Q (0 : Int32) M_6)) ∧ (¬ r_5 ≤ r_6 → (Q (1 : Int32) M_6)))) M_5)) M_3)) ∧ (¬ r_3 = (2 : Int32) → (Q (0 : Int32) M_3)))) M_1)) ∧ (¬ r_1 = (2 : Int32) → (Q (0 : Int32) M_1)))) M)
set_option maxHeartbeats 4000000 in
set_option maxRecDepth 100000 in
theorem ctX3_envies (l : Launch) (D : va_G) (cI cJ : ClassId) (ad : Nat → Nat) (had : inj54 ad) (a1 : Int32) (a2 : Int32) (Q : Int32 → Mm → Prop) (M : Mm) (hF : wX3_envies a1 a2 Q M) : Met l yX3_envies wsX3_envies ({ frames := 1, cells := 0, slots := 0, locals := 21 } : Room) (PcW D cI cJ ad M [.ref (ad 6), .int a1, .int a2]) (QzW D cI cJ ad Q) 0 0 (Fr ad) := by
  refine entW (y := yX3_envies) (ret := some .boolean) (maxL := 3) (plainFor_of_name (by decide)) rfl (Nat.le_of_ble_eq_true rfl) ?_
  intro p e s m args below meth c ls S hK hr hlocks hP hS hl
  have hx := S.1
  have hb := S.2.1
  have hown := S.2.2.2.1
  have hts := S.2.2.2.2
  have i3 : ∀ w ∈ wsX30, w ∈ wsX3_envies := by decide +kernel
  have k9 := hts (.fieldLink RX3 9 "RopeLine$Queue" "kinds" "[I") (by decide +kernel)
  have k24 := hts (.fieldLink RX3 24 "RopeLine$Queue" "servedIn" "[I") (by decide +kernel)
  have hl : lv_has ls 3 [(0, .ref (ad 6)), (1, .int a1), (2, .int a2)] := hl
  unfold wX3_envies at hF
  refine lv_aload_n hx hb dX3_envies_0 rfl (lv_at hl 0 rfl) ?_
  refine gF S hK hP i3 e_Q rfl 0 (by decide) k9 f_Q_kinds dX3_envies_1 ?_
  refine lv_iload_n hx hb dX3_envies_4 rfl (lv_at hl 1 rfl) ?_
  refine goI (rSN (rest := []) S hK hP (ctX6_at l D cI cJ ad had 26 rfl a1 _ _ hF) ⟨va_cnB 2 hts ggX3_envies_X6_at rfl rfl rfl (hK.2 _ nw_RX3_44) (hts (.initialized RX6) (by decide +kernel)) hdS_X6_at ⟨Nat.le_of_ble_eq_true rfl, Nat.le_of_ble_eq_true rfl⟩, hts (.static yX6_at) (by decide +kernel), trivial⟩ rfl hl.1 rfl (Nat.le_of_ble_eq_true rfl) dX3_envies_5 ⟨Nat.zero_le _, Nat.zero_le _⟩) hS (fun _ h => h) (fun r_1 M_1 H locs hP hS hF => ?_)
  refine lv_iconst (v := 2) hx hb dX3_envies_8 (by decide) ?_
  refine lv_icmp_ne (tgt := 47) hx hb dX3_envies_9 (by decide) (fun c_2 => ?_) (fun c_2 => ?_)
  · have hF := hF.2 c_2
    refine lv_iconst (v := 0) hx hb dX3_envies_47 (by decide) ?_
    exact retZ S hr hlocks hP hS rfl hF dX3_envies_48
  · have hF := hF.1 c_2
    refine lv_aload_n hx hb dX3_envies_12 rfl (lv_at hl 0 rfl) ?_
    refine gF S hK hP i3 e_Q rfl 0 (by decide) k9 f_Q_kinds dX3_envies_13 ?_
    refine lv_iload_n hx hb dX3_envies_16 rfl (lv_at hl 2 rfl) ?_
    refine goI (rSN (rest := []) S hK hP (ctX6_at l D cI cJ ad had 26 rfl a2 _ _ hF) ⟨va_cnB 2 hts ggX3_envies_X6_at rfl rfl rfl (hK.2 _ nw_RX3_44) (hts (.initialized RX6) (by decide +kernel)) hdS_X6_at ⟨Nat.le_of_ble_eq_true rfl, Nat.le_of_ble_eq_true rfl⟩, hts (.static yX6_at) (by decide +kernel), trivial⟩ rfl hl.1 rfl (Nat.le_of_ble_eq_true rfl) dX3_envies_17 ⟨Nat.zero_le _, Nat.zero_le _⟩) hS (fun _ h => h) (fun r_3 M_3 H locs hP hS hF => ?_)
    refine lv_iconst (v := 2) hx hb dX3_envies_20 (by decide) ?_
    refine lv_icmp_ne (tgt := 47) hx hb dX3_envies_21 (by decide) (fun c_4 => ?_) (fun c_4 => ?_)
    · have hF := hF.2 c_4
      refine lv_iconst (v := 0) hx hb dX3_envies_47 (by decide) ?_
      exact retZ S hr hlocks hP hS rfl hF dX3_envies_48
    · have hF := hF.1 c_4
      refine lv_aload_n hx hb dX3_envies_24 rfl (lv_at hl 0 rfl) ?_
      refine gF S hK hP i3 e_Q rfl 4 (by decide) k24 f_Q_servedIn dX3_envies_25 ?_
      refine lv_iload_n hx hb dX3_envies_28 rfl (lv_at hl 1 rfl) ?_
      refine goI (rSN (rest := []) S hK hP (ctX6_at l D cI cJ ad had 30 rfl a1 _ _ hF) ⟨va_cnB 2 hts ggX3_envies_X6_at rfl rfl rfl (hK.2 _ nw_RX3_44) (hts (.initialized RX6) (by decide +kernel)) hdS_X6_at ⟨Nat.le_of_ble_eq_true rfl, Nat.le_of_ble_eq_true rfl⟩, hts (.static yX6_at) (by decide +kernel), trivial⟩ rfl hl.1 rfl (Nat.le_of_ble_eq_true rfl) dX3_envies_29 ⟨Nat.zero_le _, Nat.zero_le _⟩) hS (fun _ h => h) (fun r_5 M_5 H locs hP hS hF => ?_)
      refine lv_aload_n hx hb dX3_envies_32 rfl (lv_at hl 0 rfl) ?_
      refine gF S hK hP i3 e_Q rfl 4 (by decide) k24 f_Q_servedIn dX3_envies_33 ?_
      refine lv_iload_n hx hb dX3_envies_36 rfl (lv_at hl 2 rfl) ?_
      refine goI (rSN (rest := [.int r_5]) S hK hP (ctX6_at l D cI cJ ad had 30 rfl a2 _ _ hF) ⟨va_cnB 2 hts ggX3_envies_X6_at rfl rfl rfl (hK.2 _ nw_RX3_44) (hts (.initialized RX6) (by decide +kernel)) hdS_X6_at ⟨Nat.le_of_ble_eq_true rfl, Nat.le_of_ble_eq_true rfl⟩, hts (.static yX6_at) (by decide +kernel), trivial⟩ rfl hl.1 rfl (Nat.le_of_ble_eq_true rfl) dX3_envies_37 ⟨Nat.zero_le _, Nat.zero_le _⟩) hS (fun _ h => h) (fun r_6 M_6 H locs hP hS hF => ?_)
      refine lv_icmp_le (tgt := 47) hx hb dX3_envies_40 (by decide) (fun c_7 => ?_) (fun c_7 => ?_)
      · have hF := hF.1 c_7
        refine lv_iconst (v := 0) hx hb dX3_envies_47 (by decide) ?_
        exact retZ S hr hlocks hP hS rfl hF dX3_envies_48
      · have hF := hF.2 c_7
        refine lv_iconst (v := 1) hx hb dX3_envies_43 (by decide) ?_
        refine lv_goto (tgt := 48) hx hb dX3_envies_44 (by decide) ?_
        exact retZ S hr hlocks hP hS rfl hF dX3_envies_48
def bX3_envious_16 (x2_4 : Int32) (Q : Int32 → Mm → Prop) (J_4 : Int32 → Int32 → Mm → Prop) (J_16 : Int32 → Int32 → Mm → Prop) (x1_16 : Int32) (x3_16 : Int32) (m16 : Mm) : Prop := (((gi m16 23) ≤ x3_16 → (J_4 x1_16 (x2_4 + 1) m16)) ∧ (¬ (gi m16 23) ≤ x3_16 → (wX3_envies x2_4 x3_16 (fun r_3 M_3 => ((r_3 = 0 → (J_16 x1_16 (x3_16 + 1) M_3)) ∧ (¬ r_3 = 0 → (J_16 (x1_16 + 1) (x3_16 + 1) M_3)))) m16)))
def lX3_envious_16 (x2_4 : Int32) (Q : Int32 → Mm → Prop) (J_4 : Int32 → Int32 → Mm → Prop) (x1_16 : Int32) (x3_16 : Int32) (m16 : Mm) : Prop := ∀ I : Int32 → Int32 → Mm → Prop, (∀ J : Int32 → Int32 → Mm → Prop, (∀ (x1_16 : Int32) (x3_16 : Int32) (m : Mm), J x1_16 x3_16 m → I x1_16 x3_16 m) → ∀ (x1_16 : Int32) (x3_16 : Int32) (m : Mm), bX3_envious_16 x2_4 Q J_4 J x1_16 x3_16 m → I x1_16 x3_16 m) → I x1_16 x3_16 m16
theorem lX3_envious_16_mk (x2_4 : Int32) (Q : Int32 → Mm → Prop) (J_4 : Int32 → Int32 → Mm → Prop) (x1_16 : Int32) (x3_16 : Int32) (m16 : Mm) (h : bX3_envious_16 x2_4 Q J_4 (lX3_envious_16 x2_4 Q J_4) x1_16 x3_16 m16) : lX3_envious_16 x2_4 Q J_4 x1_16 x3_16 m16 := fun I hI => hI (lX3_envious_16 x2_4 Q J_4) (fun _ _ _ q => q I hI) _ _ _ h
def bX3_envious_4 (Q : Int32 → Mm → Prop) (J_4 : Int32 → Int32 → Mm → Prop) (x1_4 : Int32) (x2_4 : Int32) (m4 : Mm) : Prop := (((gi m4 23) ≤ x2_4 → (Q x1_4 m4)) ∧ (¬ (gi m4 23) ≤ x2_4 → (lX3_envious_16 x2_4 Q J_4 x1_4 (x2_4 + (1 : Int32)) m4)))
def lX3_envious_4 (Q : Int32 → Mm → Prop) (x1_4 : Int32) (x2_4 : Int32) (m4 : Mm) : Prop := ∀ I : Int32 → Int32 → Mm → Prop, (∀ J : Int32 → Int32 → Mm → Prop, (∀ (x1_4 : Int32) (x2_4 : Int32) (m : Mm), J x1_4 x2_4 m → I x1_4 x2_4 m) → ∀ (x1_4 : Int32) (x2_4 : Int32) (m : Mm), bX3_envious_4 Q J x1_4 x2_4 m → I x1_4 x2_4 m) → I x1_4 x2_4 m4
theorem lX3_envious_4_mk (Q : Int32 → Mm → Prop) (x1_4 : Int32) (x2_4 : Int32) (m4 : Mm) (h : bX3_envious_4 Q (lX3_envious_4 Q) x1_4 x2_4 m4) : lX3_envious_4 Q x1_4 x2_4 m4 := fun I hI => hI (lX3_envious_4 Q) (fun _ _ _ q => q I hI) _ _ _ h
def wX3_envious (Q : Int32 → Mm → Prop) (M : Mm) : Prop := (lX3_envious_4 Q (0 : Int32) (0 : Int32) M)
set_option maxHeartbeats 4000000 in
set_option maxRecDepth 100000 in
theorem ctX3_envious (l : Launch) (D : va_G) (cI cJ : ClassId) (ad : Nat → Nat) (had : inj54 ad)  (Q : Int32 → Mm → Prop) (M : Mm) (hF : wX3_envious Q M) : Met l yX3_envious wsX3_envious ({ frames := 2, cells := 0, slots := 0, locals := 43 } : Room) (PcW D cI cJ ad M [.ref (ad 6)]) (QiW D cI cJ ad Q) 0 0 (Fr ad) := by
  refine entW (y := yX3_envious) (ret := some .int) (maxL := 4) (plainFor_of_name (by decide)) rfl (Nat.le_of_ble_eq_true rfl) ?_
  intro p e s m args below meth c ls S hK hr hlocks hP hS hl
  have hx := S.1
  have hb := S.2.1
  have hown := S.2.2.2.1
  have hts := S.2.2.2.2
  have i3 : ∀ w ∈ wsX30, w ∈ wsX3_envious := by decide +kernel
  have k30 := hts (.fieldLink RX3 30 "RopeLine$Queue" "comers" "I") (by decide +kernel)
  have hl : lv_has ls 4 [(0, .ref (ad 6))] := hl
  unfold wX3_envious at hF
  refine lv_iconst (v := 0) hx hb dX3_envious_0 (by decide) ?_
  refine lv_istore_n (lv' := [(1, .int (0 : Int32)), (0, .ref (ad 6))]) hx hb dX3_envious_1 rfl hl (by decide) rfl (fun ls hl => ?_)
  refine lv_iconst (v := 0) hx hb dX3_envious_2 (by decide) ?_
  refine lv_istore_n (lv' := [(2, .int (0 : Int32)), (1, .int (0 : Int32)), (0, .ref (ad 6))]) hx hb dX3_envious_3 rfl hl (by decide) rfl (fun ls hl => ?_)
  have key_4 : ∀ (x1_4 : Int32) (x2_4 : Int32) (m4 : Mm), (lX3_envious_4 Q x1_4 x2_4 m4) → Wc p l e ({ frames := 2, cells := 0, slots := 0, locals := 43 } : Room) s m args below meth c D cI cJ ad (MQ below (QiW D cI cJ ad Q) args s 0 0 (Fr ad)) 4 4 [(0, .ref (ad 6)), (1, .int x1_4), (2, .int x2_4)] m4 := by
    intro x1_4 x2_4 m4 hL
    refine hL (fun x1_4 x2_4 m4 => Wc p l e ({ frames := 2, cells := 0, slots := 0, locals := 43 } : Room) s m args below meth c D cI cJ ad (MQ below (QiW D cI cJ ad Q) args s 0 0 (Fr ad)) 4 4 [(0, .ref (ad 6)), (1, .int x1_4), (2, .int x2_4)] m4) ?_
    intro J_4 hJ_4 x1_4 x2_4 m4 hF H locs ls hP hS hl
    unfold bX3_envious_4 at hF
    refine lv_iload_n hx hb dX3_envious_4 rfl (lv_at hl 2 rfl) ?_
    refine lv_aload_n hx hb dX3_envious_5 rfl (lv_at hl 0 rfl) ?_
    refine gF S hK hP i3 e_Q rfl 6 (by decide) k30 f_Q_comers dX3_envious_6 ?_
    refine lv_icmp_ge (tgt := 48) hx hb dX3_envious_9 (by decide) (fun c_1 => ?_) (fun c_1 => ?_)
    · have hF := hF.1 c_1
      refine lv_iload_n hx hb dX3_envious_48 rfl (lv_at hl 1 rfl) ?_
      exact retI S hr hlocks hP hS hF dX3_envious_49
    · have hF := hF.2 c_1
      refine lv_iload_n hx hb dX3_envious_12 rfl (lv_at hl 2 rfl) ?_
      refine lv_iconst (v := 1) hx hb dX3_envious_13 (by decide) ?_
      refine lv_iadd hx hb dX3_envious_14 ?_
      refine lv_istore_n (lv' := [(3, .int (x2_4 + (1 : Int32))), (0, .ref (ad 6)), (1, .int x1_4), (2, .int x2_4)]) hx hb dX3_envious_15 rfl hl (by decide) rfl (fun ls hl => ?_)
      have key_16 : ∀ (x1_16 : Int32) (x3_16 : Int32) (m16 : Mm), (lX3_envious_16 x2_4 Q J_4 x1_16 x3_16 m16) → Wc p l e ({ frames := 2, cells := 0, slots := 0, locals := 43 } : Room) s m args below meth c D cI cJ ad (MQ below (QiW D cI cJ ad Q) args s 0 0 (Fr ad)) 4 16 [(0, .ref (ad 6)), (1, .int x1_16), (2, .int x2_4), (3, .int x3_16)] m16 := by
        intro x1_16 x3_16 m16 hL
        refine hL (fun x1_16 x3_16 m16 => Wc p l e ({ frames := 2, cells := 0, slots := 0, locals := 43 } : Room) s m args below meth c D cI cJ ad (MQ below (QiW D cI cJ ad Q) args s 0 0 (Fr ad)) 4 16 [(0, .ref (ad 6)), (1, .int x1_16), (2, .int x2_4), (3, .int x3_16)] m16) ?_
        intro J_16 hJ_16 x1_16 x3_16 m16 hF H locs ls hP hS hl
        unfold bX3_envious_16 at hF
        refine lv_iload_n hx hb dX3_envious_16 rfl (lv_at hl 3 rfl) ?_
        refine lv_aload_n hx hb dX3_envious_17 rfl (lv_at hl 0 rfl) ?_
        refine gF S hK hP i3 e_Q rfl 6 (by decide) k30 f_Q_comers dX3_envious_18 ?_
        refine lv_icmp_ge (tgt := 42) hx hb dX3_envious_21 (by decide) (fun c_2 => ?_) (fun c_2 => ?_)
        · have hF := hF.1 c_2
          refine lv_iinc (v := (x2_4 + 1)) (lv' := [(2, .int (x2_4 + 1)), (0, .ref (ad 6)), (1, .int x1_16), (3, .int x3_16)]) hx hb dX3_envious_42 hl (k := 2) rfl rfl (by decide) rfl (fun ls hl => ?_)
          refine lv_goto (tgt := 4) hx hb dX3_envious_45 (by decide) ?_
          exact hJ_4 _ _ _ hF _ _ _ hP hS (lv_sub hl [1, 2, 0] rfl)
        · have hF := hF.2 c_2
          refine lv_aload_n hx hb dX3_envious_24 rfl (lv_at hl 0 rfl) ?_
          refine lv_iload_n hx hb dX3_envious_25 rfl (lv_at hl 2 rfl) ?_
          refine lv_iload_n hx hb dX3_envious_26 rfl (lv_at hl 3 rfl) ?_
          refine goZ (rV (rest := []) S hK hP (ctX3_envies l D cI cJ ad had x2_4 x3_16 _ _ hF) (cwV 2 hts gX3_envious_X3_envies rfl rfl rfl hdV_X3_envies ⟨Nat.le_of_ble_eq_true rfl, Nat.le_of_ble_eq_true rfl⟩) e_Q rfl rfl hl.1 rfl (Nat.le_of_ble_eq_true rfl) dX3_envious_27 ⟨Nat.zero_le _, Nat.zero_le _⟩) hS (fun _ h => h) (fun r_3 M_3 H locs hP hS hz_r_3 hF => ?_)
          refine lv_if_eq (tgt := 36) hx hb dX3_envious_30 (by decide) (fun c_4 => ?_) (fun c_4 => ?_)
          · have hF := hF.1 c_4
            refine lv_iinc (v := (x3_16 + 1)) (lv' := [(3, .int (x3_16 + 1)), (0, .ref (ad 6)), (1, .int x1_16), (2, .int x2_4)]) hx hb dX3_envious_36 hl (k := 3) rfl rfl (by decide) rfl (fun ls hl => ?_)
            refine lv_goto (tgt := 16) hx hb dX3_envious_39 (by decide) ?_
            exact hJ_16 _ _ _ hF _ _ _ hP hS (lv_sub hl [1, 2, 3, 0] rfl)
          · have hF := hF.2 c_4
            refine lv_iinc (v := (x1_16 + 1)) (lv' := [(1, .int (x1_16 + 1)), (0, .ref (ad 6)), (2, .int x2_4), (3, .int x3_16)]) hx hb dX3_envious_33 hl (k := 1) rfl rfl (by decide) rfl (fun ls hl => ?_)
            refine lv_iinc (v := (x3_16 + 1)) (lv' := [(3, .int (x3_16 + 1)), (1, .int (x1_16 + 1)), (0, .ref (ad 6)), (2, .int x2_4)]) hx hb dX3_envious_36 hl (k := 3) rfl rfl (by decide) rfl (fun ls hl => ?_)
            refine lv_goto (tgt := 16) hx hb dX3_envious_39 (by decide) ?_
            exact hJ_16 _ _ _ hF _ _ _ hP hS (lv_sub hl [2, 1, 3, 0] rfl)
      exact key_16 _ _ _ hF _ _ _ hP hS (lv_sub hl [1, 2, 3, 0] rfl)
  exact key_4 _ _ _ hF _ _ _ hP hS (lv_sub hl [2, 1, 0] rfl)
def bX4_renew_21 (a1 : Int32) (a3 : Int32) (Q : Mm → Prop) (J_21 : Int32 → Mm → Prop) (x4_21 : Int32) (m21 : Mm) : Prop := ((a3 ≤ x4_21 → (Q m21)) ∧ (¬ a3 ≤ x4_21 → (((60 : Int32) ≤ x4_21 → (Q m21)) ∧ (¬ (60 : Int32) ≤ x4_21 → (wX4_indexOf a1 x4_21 (fun r_5 M_5 => (wX6_set 10 r_5 (0 : Int32) (fun M_6 => (J_21 (x4_21 + 1) M_6)) M_5)) m21)))))
def lX4_renew_21 (a1 : Int32) (a3 : Int32) (Q : Mm → Prop) (x4_21 : Int32) (m21 : Mm) : Prop := ∀ I : Int32 → Mm → Prop, (∀ J : Int32 → Mm → Prop, (∀ (x4_21 : Int32) (m : Mm), J x4_21 m → I x4_21 m) → ∀ (x4_21 : Int32) (m : Mm), bX4_renew_21 a1 a3 Q J x4_21 m → I x4_21 m) → I x4_21 m21
theorem lX4_renew_21_mk (a1 : Int32) (a3 : Int32) (Q : Mm → Prop) (x4_21 : Int32) (m21 : Mm) (h : bX4_renew_21 a1 a3 Q (lX4_renew_21 a1 a3 Q) x4_21 m21) : lX4_renew_21 a1 a3 Q x4_21 m21 := fun I hI => hI (lX4_renew_21 a1 a3 Q) (fun _ _ q => q I hI) _ _ h
def wX4_renew (a1 : Int32) (a2 : Int32) (a3 : Int32) (Q : Mm → Prop) (M : Mm) : Prop := (wX6_set 8 a1 a2 (fun M_1 => (wX6_set 9 a1 a3 (fun M_2 => (lX4_renew_21 a1 a3 Q (0 : Int32) M_2)) M_1)) M)
set_option maxHeartbeats 4000000 in
set_option maxRecDepth 100000 in
theorem ctX4_renew (l : Launch) (D : va_G) (cI cJ : ClassId) (ad : Nat → Nat) (had : inj54 ad) (a1 : Int32) (a2 : Int32) (a3 : Int32) (Q : Mm → Prop) (M : Mm) (hF : wX4_renew a1 a2 a3 Q M) : Met l yX4_renew wsX4_renew ({ frames := 1, cells := 0, slots := 0, locals := 22 } : Room) (PcW D cI cJ ad M [.ref (ad 1), .int a1, .int a2, .int a3]) (QvW D cI cJ ad Q) 0 0 (Fr ad) := by
  refine entW (y := yX4_renew) (ret := none) (maxL := 5) (plainFor_of_name (by decide)) rfl (Nat.le_of_ble_eq_true rfl) ?_
  intro p e s m args below meth c ls S hK hr hlocks hP hS hl
  have hx := S.1
  have hb := S.2.1
  have hown := S.2.2.2.1
  have hts := S.2.2.2.2
  have i4 : ∀ w ∈ wsX40, w ∈ wsX4_renew := by decide +kernel
  have k9 := hts (.fieldLink RX4 9 "RopeLine$Sheets" "lanes" "[I") (by decide +kernel)
  have k15 := hts (.fieldLink RX4 15 "RopeLine$Sheets" "sizes" "[I") (by decide +kernel)
  have k18 := hts (.fieldLink RX4 18 "RopeLine$Sheets" "cells" "[I") (by decide +kernel)
  have hl : lv_has ls 5 [(0, .ref (ad 1)), (1, .int a1), (2, .int a2), (3, .int a3)] := hl
  unfold wX4_renew at hF
  refine lv_aload_n hx hb dX4_renew_0 rfl (lv_at hl 0 rfl) ?_
  refine gF S hK hP i4 e_S rfl 0 (by decide) k9 f_S_lanes dX4_renew_1 ?_
  refine lv_iload_n hx hb dX4_renew_4 rfl (lv_at hl 1 rfl) ?_
  refine lv_iload_n hx hb dX4_renew_5 rfl (lv_at hl 2 rfl) ?_
  refine goV (rSN (rest := []) S hK hP (ctX6_set l D cI cJ ad had 8 rfl a1 a2 _ _ hF) ⟨va_cnB 3 hts ggX4_renew_X6_set rfl rfl rfl (hK.2 _ nw_RX4_21) (hts (.initialized RX6) (by decide +kernel)) hdS_X6_set ⟨Nat.le_of_ble_eq_true rfl, Nat.le_of_ble_eq_true rfl⟩, hts (.static yX6_set) (by decide +kernel), trivial⟩ rfl hl.1 rfl (Nat.le_of_ble_eq_true rfl) dX4_renew_6 ⟨Nat.zero_le _, Nat.zero_le _⟩) hS (fun _ h => h) (fun M_1 H locs hP hS hF => ?_)
  refine lv_aload_n hx hb dX4_renew_9 rfl (lv_at hl 0 rfl) ?_
  refine gF S hK hP i4 e_S rfl 1 (by decide) k15 f_S_sizes dX4_renew_10 ?_
  refine lv_iload_n hx hb dX4_renew_13 rfl (lv_at hl 1 rfl) ?_
  refine lv_iload_n hx hb dX4_renew_14 rfl (lv_at hl 3 rfl) ?_
  refine goV (rSN (rest := []) S hK hP (ctX6_set l D cI cJ ad had 9 rfl a1 a3 _ _ hF) ⟨va_cnB 3 hts ggX4_renew_X6_set rfl rfl rfl (hK.2 _ nw_RX4_21) (hts (.initialized RX6) (by decide +kernel)) hdS_X6_set ⟨Nat.le_of_ble_eq_true rfl, Nat.le_of_ble_eq_true rfl⟩, hts (.static yX6_set) (by decide +kernel), trivial⟩ rfl hl.1 rfl (Nat.le_of_ble_eq_true rfl) dX4_renew_15 ⟨Nat.zero_le _, Nat.zero_le _⟩) hS (fun _ h => h) (fun M_2 H locs hP hS hF => ?_)
  refine lv_iconst (v := 0) hx hb dX4_renew_18 (by decide) ?_
  refine lv_istore (lv' := [(4, .int (0 : Int32)), (0, .ref (ad 1)), (1, .int a1), (2, .int a2), (3, .int a3)]) hx hb dX4_renew_19 hl (by decide) rfl (fun ls hl => ?_)
  have key_21 : ∀ (x4_21 : Int32) (m21 : Mm), (lX4_renew_21 a1 a3 Q x4_21 m21) → Wc p l e ({ frames := 1, cells := 0, slots := 0, locals := 22 } : Room) s m args below meth c D cI cJ ad (MQ below (QvW D cI cJ ad Q) args s 0 0 (Fr ad)) 5 21 [(0, .ref (ad 1)), (1, .int a1), (3, .int a3), (4, .int x4_21)] m21 := by
    intro x4_21 m21 hL
    refine hL (fun x4_21 m21 => Wc p l e ({ frames := 1, cells := 0, slots := 0, locals := 22 } : Room) s m args below meth c D cI cJ ad (MQ below (QvW D cI cJ ad Q) args s 0 0 (Fr ad)) 5 21 [(0, .ref (ad 1)), (1, .int a1), (3, .int a3), (4, .int x4_21)] m21) ?_
    intro J_21 hJ_21 x4_21 m21 hF H locs ls hP hS hl
    unfold bX4_renew_21 at hF
    refine lv_iload hx hb dX4_renew_21 (lv_at hl 3 rfl) ?_
    refine lv_iload_n hx hb dX4_renew_23 rfl (lv_at hl 2 rfl) ?_
    refine lv_icmp_ge (tgt := 55) hx hb dX4_renew_24 (by decide) (fun c_3 => ?_) (fun c_3 => ?_)
    · have hF := hF.1 c_3
      exact retV S hr hlocks hP hS hF dX4_renew_55
    · have hF := hF.2 c_3
      refine lv_iload hx hb dX4_renew_27 (lv_at hl 3 rfl) ?_
      refine lv_bipush (v := 60) hx hb dX4_renew_29 (by decide) ?_
      refine lv_icmp_ge (tgt := 55) hx hb dX4_renew_31 (by decide) (fun c_4 => ?_) (fun c_4 => ?_)
      · have hF := hF.1 c_4
        exact retV S hr hlocks hP hS hF dX4_renew_55
      · have hF := hF.2 c_4
        refine lv_aload_n hx hb dX4_renew_34 rfl (lv_at hl 0 rfl) ?_
        refine gF S hK hP i4 e_S rfl 2 (by decide) k18 f_S_cells dX4_renew_35 ?_
        refine lv_aload_n hx hb dX4_renew_38 rfl (lv_at hl 0 rfl) ?_
        refine lv_iload_n hx hb dX4_renew_39 rfl (lv_at hl 1 rfl) ?_
        refine lv_iload hx hb dX4_renew_40 (lv_at hl 3 rfl) ?_
        refine goI (rV (rest := [.ref (ad 10)]) S hK hP (ctX4_indexOf l D cI cJ ad had a1 x4_21 _ _ hF) (cwV 2 hts gX4_renew_X4_indexOf rfl rfl rfl hdV_X4_indexOf ⟨Nat.le_of_ble_eq_true rfl, Nat.le_of_ble_eq_true rfl⟩) e_S rfl rfl hl.1 rfl (Nat.le_of_ble_eq_true rfl) dX4_renew_42 ⟨Nat.zero_le _, Nat.zero_le _⟩) hS (fun _ h => h) (fun r_5 M_5 H locs hP hS hF => ?_)
        refine lv_iconst (v := 0) hx hb dX4_renew_45 (by decide) ?_
        refine goV (rSN (rest := []) S hK hP (ctX6_set l D cI cJ ad had 10 rfl r_5 (0 : Int32) _ _ hF) ⟨va_cnB 3 hts ggX4_renew_X6_set rfl rfl rfl (hK.2 _ nw_RX4_21) (hts (.initialized RX6) (by decide +kernel)) hdS_X6_set ⟨Nat.le_of_ble_eq_true rfl, Nat.le_of_ble_eq_true rfl⟩, hts (.static yX6_set) (by decide +kernel), trivial⟩ rfl hl.1 rfl (Nat.le_of_ble_eq_true rfl) dX4_renew_46 ⟨Nat.zero_le _, Nat.zero_le _⟩) hS (fun _ h => h) (fun M_6 H locs hP hS hF => ?_)
        refine lv_iinc (v := (x4_21 + 1)) (lv' := [(4, .int (x4_21 + 1)), (0, .ref (ad 1)), (1, .int a1), (3, .int a3)]) hx hb dX4_renew_49 hl (k := 3) rfl rfl (by decide) rfl (fun ls hl => ?_)
        refine lv_goto (tgt := 21) hx hb dX4_renew_52 (by decide) ?_
        exact hJ_21 _ _ hF _ _ _ hP hS (lv_sub hl [1, 2, 3, 0] rfl)
  exact key_21 _ _ hF _ _ _ hP hS (lv_sub hl [1, 2, 4, 0] rfl)
def wX4_forget (a1 : Int32) (Q : Mm → Prop) (M : Mm) : Prop := (wX6_set 8 a1 (-1 : Int32) (fun M_1 => (wX6_set 9 a1 (0 : Int32) (fun M_2 => (Q M_2)) M_1)) M)
set_option maxHeartbeats 4000000 in
set_option maxRecDepth 100000 in
theorem ctX4_forget (l : Launch) (D : va_G) (cI cJ : ClassId) (ad : Nat → Nat) (had : inj54 ad) (a1 : Int32) (Q : Mm → Prop) (M : Mm) (hF : wX4_forget a1 Q M) : Met l yX4_forget wsX4_forget ({ frames := 1, cells := 0, slots := 0, locals := 22 } : Room) (PcW D cI cJ ad M [.ref (ad 1), .int a1]) (QvW D cI cJ ad Q) 0 0 (Fr ad) := by
  refine entW (y := yX4_forget) (ret := none) (maxL := 2) (plainFor_of_name (by decide)) rfl (Nat.le_of_ble_eq_true rfl) ?_
  intro p e s m args below meth c ls S hK hr hlocks hP hS hl
  have hx := S.1
  have hb := S.2.1
  have hown := S.2.2.2.1
  have hts := S.2.2.2.2
  have i4 : ∀ w ∈ wsX40, w ∈ wsX4_forget := by decide +kernel
  have k9 := hts (.fieldLink RX4 9 "RopeLine$Sheets" "lanes" "[I") (by decide +kernel)
  have k15 := hts (.fieldLink RX4 15 "RopeLine$Sheets" "sizes" "[I") (by decide +kernel)
  have hl : lv_has ls 2 [(0, .ref (ad 1)), (1, .int a1)] := hl
  unfold wX4_forget at hF
  refine lv_aload_n hx hb dX4_forget_0 rfl (lv_at hl 0 rfl) ?_
  refine gF S hK hP i4 e_S rfl 0 (by decide) k9 f_S_lanes dX4_forget_1 ?_
  refine lv_iload_n hx hb dX4_forget_4 rfl (lv_at hl 1 rfl) ?_
  refine lv_iconst (v := -1) hx hb dX4_forget_5 (by decide) ?_
  refine goV (rSN (rest := []) S hK hP (ctX6_set l D cI cJ ad had 8 rfl a1 (-1 : Int32) _ _ hF) ⟨va_cnB 3 hts ggX4_forget_X6_set rfl rfl rfl (hK.2 _ nw_RX4_21) (hts (.initialized RX6) (by decide +kernel)) hdS_X6_set ⟨Nat.le_of_ble_eq_true rfl, Nat.le_of_ble_eq_true rfl⟩, hts (.static yX6_set) (by decide +kernel), trivial⟩ rfl hl.1 rfl (Nat.le_of_ble_eq_true rfl) dX4_forget_6 ⟨Nat.zero_le _, Nat.zero_le _⟩) hS (fun _ h => h) (fun M_1 H locs hP hS hF => ?_)
  refine lv_aload_n hx hb dX4_forget_9 rfl (lv_at hl 0 rfl) ?_
  refine gF S hK hP i4 e_S rfl 1 (by decide) k15 f_S_sizes dX4_forget_10 ?_
  refine lv_iload_n hx hb dX4_forget_13 rfl (lv_at hl 1 rfl) ?_
  refine lv_iconst (v := 0) hx hb dX4_forget_14 (by decide) ?_
  refine goV (rSN (rest := []) S hK hP (ctX6_set l D cI cJ ad had 9 rfl a1 (0 : Int32) _ _ hF) ⟨va_cnB 3 hts ggX4_forget_X6_set rfl rfl rfl (hK.2 _ nw_RX4_21) (hts (.initialized RX6) (by decide +kernel)) hdS_X6_set ⟨Nat.le_of_ble_eq_true rfl, Nat.le_of_ble_eq_true rfl⟩, hts (.static yX6_set) (by decide +kernel), trivial⟩ rfl hl.1 rfl (Nat.le_of_ble_eq_true rfl) dX4_forget_15 ⟨Nat.zero_le _, Nat.zero_le _⟩) hS (fun _ h => h) (fun M_2 H locs hP hS hF => ?_)
  exact retV S hr hlocks hP hS hF dX4_forget_18
def wX4_write (a1 : Int32) (a2 : Int32) (a3 : Int32) (Q : Mm → Prop) (M : Mm) : Prop := (wX6_at 8 a1 (fun r_1 M_1 => ((r_1 = 0 → (wX6_at 8 a1 (fun r_9 M_9 => ((r_9 = (1 : Int32) → (wX4_indexOf a1 a2 (fun r_13 M_13 => (wX6_set 10 r_13 (a3.toInt16.toInt32) (fun M_14 => (Q M_14)) M_13)) M_9)) ∧ (¬ r_9 = (1 : Int32) → (wX4_indexOf a1 a2 (fun r_11 M_11 => (wX6_set 10 r_11 (a3.toInt8.toInt32) (fun M_12 => (Q M_12)) M_11)) M_9)))) M_1)) ∧ (¬ r_1 = 0 → (wX6_at 8 a1 (fun r_3 M_3 => ((r_3 = (1 : Int32) → (wX4_indexOf a1 a2 (fun r_7 M_7 => (wX6_set 10 r_7 (a3.toInt16.toInt32) (fun M_8 => (Q M_8)) M_7)) M_3)) ∧ (¬ r_3 = (1 : Int32) → (wX4_indexOf a1 a2 (fun r_5 M_5 => (wX6_set 10 r_5 a3 (fun M_6 => (Q M_6)) M_5)) M_3)))) M_1)))) M)
set_option maxHeartbeats 4000000 in
set_option maxRecDepth 100000 in
theorem ctX4_write (l : Launch) (D : va_G) (cI cJ : ClassId) (ad : Nat → Nat) (had : inj54 ad) (a1 : Int32) (a2 : Int32) (a3 : Int32) (Q : Mm → Prop) (M : Mm) (hF : wX4_write a1 a2 a3 Q M) : Met l yX4_write wsX4_write ({ frames := 1, cells := 0, slots := 0, locals := 22 } : Room) (PcW D cI cJ ad M [.ref (ad 1), .int a1, .int a2, .int a3]) (QvW D cI cJ ad Q) 0 0 (Fr ad) := by
  refine entW (y := yX4_write) (ret := none) (maxL := 5) (plainFor_of_name (by decide)) rfl (Nat.le_of_ble_eq_true rfl) ?_
  intro p e s m args below meth c ls S hK hr hlocks hP hS hl
  have hx := S.1
  have hb := S.2.1
  have hown := S.2.2.2.1
  have hts := S.2.2.2.2
  have i4 : ∀ w ∈ wsX40, w ∈ wsX4_write := by decide +kernel
  have k9 := hts (.fieldLink RX4 9 "RopeLine$Sheets" "lanes" "[I") (by decide +kernel)
  have k18 := hts (.fieldLink RX4 18 "RopeLine$Sheets" "cells" "[I") (by decide +kernel)
  have hl : lv_has ls 5 [(0, .ref (ad 1)), (1, .int a1), (2, .int a2), (3, .int a3)] := hl
  unfold wX4_write at hF
  refine lv_iload_n hx hb dX4_write_0 rfl (lv_at hl 3 rfl) ?_
  refine lv_istore (lv' := [(4, .int a3), (0, .ref (ad 1)), (1, .int a1), (2, .int a2), (3, .int a3)]) hx hb dX4_write_1 hl (by decide) rfl (fun ls hl => ?_)
  refine lv_aload_n hx hb dX4_write_3 rfl (lv_at hl 1 rfl) ?_
  refine gF S hK hP i4 e_S rfl 0 (by decide) k9 f_S_lanes dX4_write_4 ?_
  refine lv_iload_n hx hb dX4_write_7 rfl (lv_at hl 2 rfl) ?_
  refine goI (rSN (rest := []) S hK hP (ctX6_at l D cI cJ ad had 8 rfl a1 _ _ hF) ⟨va_cnB 2 hts ggX4_write_X6_at rfl rfl rfl (hK.2 _ nw_RX4_29) (hts (.initialized RX6) (by decide +kernel)) hdS_X6_at ⟨Nat.le_of_ble_eq_true rfl, Nat.le_of_ble_eq_true rfl⟩, hts (.static yX6_at) (by decide +kernel), trivial⟩ rfl hl.1 rfl (Nat.le_of_ble_eq_true rfl) dX4_write_8 ⟨Nat.zero_le _, Nat.zero_le _⟩) hS (fun _ h => h) (fun r_1 M_1 H locs hP hS hF => ?_)
  refine lv_if_ne (tgt := 18) hx hb dX4_write_11 (by decide) (fun c_2 => ?_) (fun c_2 => ?_)
  · have hF := hF.2 c_2
    refine lv_aload_n hx hb dX4_write_18 rfl (lv_at hl 1 rfl) ?_
    refine gF S hK hP i4 e_S rfl 0 (by decide) k9 f_S_lanes dX4_write_19 ?_
    refine lv_iload_n hx hb dX4_write_22 rfl (lv_at hl 2 rfl) ?_
    refine goI (rSN (rest := []) S hK hP (ctX6_at l D cI cJ ad had 8 rfl a1 _ _ hF) ⟨va_cnB 2 hts ggX4_write_X6_at rfl rfl rfl (hK.2 _ nw_RX4_29) (hts (.initialized RX6) (by decide +kernel)) hdS_X6_at ⟨Nat.le_of_ble_eq_true rfl, Nat.le_of_ble_eq_true rfl⟩, hts (.static yX6_at) (by decide +kernel), trivial⟩ rfl hl.1 rfl (Nat.le_of_ble_eq_true rfl) dX4_write_23 ⟨Nat.zero_le _, Nat.zero_le _⟩) hS (fun _ h => h) (fun r_3 M_3 H locs hP hS hF => ?_)
    refine lv_iconst (v := 1) hx hb dX4_write_26 (by decide) ?_
    refine lv_icmp_ne (tgt := 34) hx hb dX4_write_27 (by decide) (fun c_4 => ?_) (fun c_4 => ?_)
    · have hF := hF.2 c_4
      refine lv_aload_n hx hb dX4_write_34 rfl (lv_at hl 1 rfl) ?_
      refine gF S hK hP i4 e_S rfl 2 (by decide) k18 f_S_cells dX4_write_35 ?_
      refine lv_aload_n hx hb dX4_write_38 rfl (lv_at hl 1 rfl) ?_
      refine lv_iload_n hx hb dX4_write_39 rfl (lv_at hl 2 rfl) ?_
      refine lv_iload_n hx hb dX4_write_40 rfl (lv_at hl 3 rfl) ?_
      refine goI (rV (rest := [.ref (ad 10)]) S hK hP (ctX4_indexOf l D cI cJ ad had a1 a2 _ _ hF) (cwV 2 hts gX4_write_X4_indexOf rfl rfl rfl hdV_X4_indexOf ⟨Nat.le_of_ble_eq_true rfl, Nat.le_of_ble_eq_true rfl⟩) e_S rfl rfl hl.1 rfl (Nat.le_of_ble_eq_true rfl) dX4_write_41 ⟨Nat.zero_le _, Nat.zero_le _⟩) hS (fun _ h => h) (fun r_5 M_5 H locs hP hS hF => ?_)
      refine lv_iload hx hb dX4_write_44 (lv_at hl 0 rfl) ?_
      refine goV (rSN (rest := []) S hK hP (ctX6_set l D cI cJ ad had 10 rfl r_5 a3 _ _ hF) ⟨va_cnB 3 hts ggX4_write_X6_set rfl rfl rfl (hK.2 _ nw_RX4_21) (hts (.initialized RX6) (by decide +kernel)) hdS_X6_set ⟨Nat.le_of_ble_eq_true rfl, Nat.le_of_ble_eq_true rfl⟩, hts (.static yX6_set) (by decide +kernel), trivial⟩ rfl hl.1 rfl (Nat.le_of_ble_eq_true rfl) dX4_write_46 ⟨Nat.zero_le _, Nat.zero_le _⟩) hS (fun _ h => h) (fun M_6 H locs hP hS hF => ?_)
      exact retV S hr hlocks hP hS hF dX4_write_49
    · have hF := hF.1 c_4
      refine lv_iload_n hx hb dX4_write_30 rfl (lv_at hl 4 rfl) ?_
      refine lv_i2s hx hb dX4_write_31 rfl ?_
      refine lv_istore (lv' := [(4, .int (a3.toInt16.toInt32)), (0, .ref (ad 1)), (1, .int a1), (2, .int a2), (3, .int a3)]) hx hb dX4_write_32 hl (by decide) rfl (fun ls hl => ?_)
      refine lv_aload_n hx hb dX4_write_34 rfl (lv_at hl 1 rfl) ?_
      refine gF S hK hP i4 e_S rfl 2 (by decide) k18 f_S_cells dX4_write_35 ?_
      refine lv_aload_n hx hb dX4_write_38 rfl (lv_at hl 1 rfl) ?_
      refine lv_iload_n hx hb dX4_write_39 rfl (lv_at hl 2 rfl) ?_
      refine lv_iload_n hx hb dX4_write_40 rfl (lv_at hl 3 rfl) ?_
      refine goI (rV (rest := [.ref (ad 10)]) S hK hP (ctX4_indexOf l D cI cJ ad had a1 a2 _ _ hF) (cwV 2 hts gX4_write_X4_indexOf rfl rfl rfl hdV_X4_indexOf ⟨Nat.le_of_ble_eq_true rfl, Nat.le_of_ble_eq_true rfl⟩) e_S rfl rfl hl.1 rfl (Nat.le_of_ble_eq_true rfl) dX4_write_41 ⟨Nat.zero_le _, Nat.zero_le _⟩) hS (fun _ h => h) (fun r_7 M_7 H locs hP hS hF => ?_)
      refine lv_iload hx hb dX4_write_44 (lv_at hl 0 rfl) ?_
      refine goV (rSN (rest := []) S hK hP (ctX6_set l D cI cJ ad had 10 rfl r_7 (a3.toInt16.toInt32) _ _ hF) ⟨va_cnB 3 hts ggX4_write_X6_set rfl rfl rfl (hK.2 _ nw_RX4_21) (hts (.initialized RX6) (by decide +kernel)) hdS_X6_set ⟨Nat.le_of_ble_eq_true rfl, Nat.le_of_ble_eq_true rfl⟩, hts (.static yX6_set) (by decide +kernel), trivial⟩ rfl hl.1 rfl (Nat.le_of_ble_eq_true rfl) dX4_write_46 ⟨Nat.zero_le _, Nat.zero_le _⟩) hS (fun _ h => h) (fun M_8 H locs hP hS hF => ?_)
      exact retV S hr hlocks hP hS hF dX4_write_49
  · have hF := hF.1 c_2
    refine lv_iload_n hx hb dX4_write_14 rfl (lv_at hl 4 rfl) ?_
    refine lv_i2b hx hb dX4_write_15 rfl ?_
    refine lv_istore (lv' := [(4, .int (a3.toInt8.toInt32)), (0, .ref (ad 1)), (1, .int a1), (2, .int a2), (3, .int a3)]) hx hb dX4_write_16 hl (by decide) rfl (fun ls hl => ?_)
    refine lv_aload_n hx hb dX4_write_18 rfl (lv_at hl 1 rfl) ?_
    refine gF S hK hP i4 e_S rfl 0 (by decide) k9 f_S_lanes dX4_write_19 ?_
    refine lv_iload_n hx hb dX4_write_22 rfl (lv_at hl 2 rfl) ?_
    refine goI (rSN (rest := []) S hK hP (ctX6_at l D cI cJ ad had 8 rfl a1 _ _ hF) ⟨va_cnB 2 hts ggX4_write_X6_at rfl rfl rfl (hK.2 _ nw_RX4_29) (hts (.initialized RX6) (by decide +kernel)) hdS_X6_at ⟨Nat.le_of_ble_eq_true rfl, Nat.le_of_ble_eq_true rfl⟩, hts (.static yX6_at) (by decide +kernel), trivial⟩ rfl hl.1 rfl (Nat.le_of_ble_eq_true rfl) dX4_write_23 ⟨Nat.zero_le _, Nat.zero_le _⟩) hS (fun _ h => h) (fun r_9 M_9 H locs hP hS hF => ?_)
    refine lv_iconst (v := 1) hx hb dX4_write_26 (by decide) ?_
    refine lv_icmp_ne (tgt := 34) hx hb dX4_write_27 (by decide) (fun c_10 => ?_) (fun c_10 => ?_)
    · have hF := hF.2 c_10
      refine lv_aload_n hx hb dX4_write_34 rfl (lv_at hl 1 rfl) ?_
      refine gF S hK hP i4 e_S rfl 2 (by decide) k18 f_S_cells dX4_write_35 ?_
      refine lv_aload_n hx hb dX4_write_38 rfl (lv_at hl 1 rfl) ?_
      refine lv_iload_n hx hb dX4_write_39 rfl (lv_at hl 2 rfl) ?_
      refine lv_iload_n hx hb dX4_write_40 rfl (lv_at hl 3 rfl) ?_
      refine goI (rV (rest := [.ref (ad 10)]) S hK hP (ctX4_indexOf l D cI cJ ad had a1 a2 _ _ hF) (cwV 2 hts gX4_write_X4_indexOf rfl rfl rfl hdV_X4_indexOf ⟨Nat.le_of_ble_eq_true rfl, Nat.le_of_ble_eq_true rfl⟩) e_S rfl rfl hl.1 rfl (Nat.le_of_ble_eq_true rfl) dX4_write_41 ⟨Nat.zero_le _, Nat.zero_le _⟩) hS (fun _ h => h) (fun r_11 M_11 H locs hP hS hF => ?_)
      refine lv_iload hx hb dX4_write_44 (lv_at hl 0 rfl) ?_
      refine goV (rSN (rest := []) S hK hP (ctX6_set l D cI cJ ad had 10 rfl r_11 (a3.toInt8.toInt32) _ _ hF) ⟨va_cnB 3 hts ggX4_write_X6_set rfl rfl rfl (hK.2 _ nw_RX4_21) (hts (.initialized RX6) (by decide +kernel)) hdS_X6_set ⟨Nat.le_of_ble_eq_true rfl, Nat.le_of_ble_eq_true rfl⟩, hts (.static yX6_set) (by decide +kernel), trivial⟩ rfl hl.1 rfl (Nat.le_of_ble_eq_true rfl) dX4_write_46 ⟨Nat.zero_le _, Nat.zero_le _⟩) hS (fun _ h => h) (fun M_12 H locs hP hS hF => ?_)
      exact retV S hr hlocks hP hS hF dX4_write_49
    · have hF := hF.1 c_10
      refine lv_iload_n hx hb dX4_write_30 rfl (lv_at hl 4 rfl) ?_
      refine lv_i2s hx hb dX4_write_31 rfl ?_
      refine lv_istore (lv' := [(4, .int (a3.toInt16.toInt32)), (0, .ref (ad 1)), (1, .int a1), (2, .int a2), (3, .int a3)]) hx hb dX4_write_32 hl (by decide) rfl (fun ls hl => ?_)
      refine lv_aload_n hx hb dX4_write_34 rfl (lv_at hl 1 rfl) ?_
      refine gF S hK hP i4 e_S rfl 2 (by decide) k18 f_S_cells dX4_write_35 ?_
      refine lv_aload_n hx hb dX4_write_38 rfl (lv_at hl 1 rfl) ?_
      refine lv_iload_n hx hb dX4_write_39 rfl (lv_at hl 2 rfl) ?_
      refine lv_iload_n hx hb dX4_write_40 rfl (lv_at hl 3 rfl) ?_
      refine goI (rV (rest := [.ref (ad 10)]) S hK hP (ctX4_indexOf l D cI cJ ad had a1 a2 _ _ hF) (cwV 2 hts gX4_write_X4_indexOf rfl rfl rfl hdV_X4_indexOf ⟨Nat.le_of_ble_eq_true rfl, Nat.le_of_ble_eq_true rfl⟩) e_S rfl rfl hl.1 rfl (Nat.le_of_ble_eq_true rfl) dX4_write_41 ⟨Nat.zero_le _, Nat.zero_le _⟩) hS (fun _ h => h) (fun r_13 M_13 H locs hP hS hF => ?_)
      refine lv_iload hx hb dX4_write_44 (lv_at hl 0 rfl) ?_
      refine goV (rSN (rest := []) S hK hP (ctX6_set l D cI cJ ad had 10 rfl r_13 (a3.toInt16.toInt32) _ _ hF) ⟨va_cnB 3 hts ggX4_write_X6_set rfl rfl rfl (hK.2 _ nw_RX4_21) (hts (.initialized RX6) (by decide +kernel)) hdS_X6_set ⟨Nat.le_of_ble_eq_true rfl, Nat.le_of_ble_eq_true rfl⟩, hts (.static yX6_set) (by decide +kernel), trivial⟩ rfl hl.1 rfl (Nat.le_of_ble_eq_true rfl) dX4_write_46 ⟨Nat.zero_le _, Nat.zero_le _⟩) hS (fun _ h => h) (fun M_14 H locs hP hS hF => ?_)
      exact retV S hr hlocks hP hS hF dX4_write_49
def wX4_read (a1 : Int32) (a2 : Int32) (Q : Int32 → Mm → Prop) (M : Mm) : Prop := (wX4_indexOf a1 a2 (fun r_1 M_1 => (wX6_at 10 r_1 (fun r_2 M_2 => (Q r_2 M_2)) M_1)) M)
set_option maxHeartbeats 4000000 in
set_option maxRecDepth 100000 in
theorem ctX4_read (l : Launch) (D : va_G) (cI cJ : ClassId) (ad : Nat → Nat) (had : inj54 ad) (a1 : Int32) (a2 : Int32) (Q : Int32 → Mm → Prop) (M : Mm) (hF : wX4_read a1 a2 Q M) : Met l yX4_read wsX4_read ({ frames := 1, cells := 0, slots := 0, locals := 22 } : Room) (PcW D cI cJ ad M [.ref (ad 1), .int a1, .int a2]) (QiW D cI cJ ad Q) 0 0 (Fr ad) := by
  refine entW (y := yX4_read) (ret := some .int) (maxL := 3) (plainFor_of_name (by decide)) rfl (Nat.le_of_ble_eq_true rfl) ?_
  intro p e s m args below meth c ls S hK hr hlocks hP hS hl
  have hx := S.1
  have hb := S.2.1
  have hown := S.2.2.2.1
  have hts := S.2.2.2.2
  have i4 : ∀ w ∈ wsX40, w ∈ wsX4_read := by decide +kernel
  have k18 := hts (.fieldLink RX4 18 "RopeLine$Sheets" "cells" "[I") (by decide +kernel)
  have hl : lv_has ls 3 [(0, .ref (ad 1)), (1, .int a1), (2, .int a2)] := hl
  unfold wX4_read at hF
  refine lv_aload_n hx hb dX4_read_0 rfl (lv_at hl 0 rfl) ?_
  refine gF S hK hP i4 e_S rfl 2 (by decide) k18 f_S_cells dX4_read_1 ?_
  refine lv_aload_n hx hb dX4_read_4 rfl (lv_at hl 0 rfl) ?_
  refine lv_iload_n hx hb dX4_read_5 rfl (lv_at hl 1 rfl) ?_
  refine lv_iload_n hx hb dX4_read_6 rfl (lv_at hl 2 rfl) ?_
  refine goI (rV (rest := [.ref (ad 10)]) S hK hP (ctX4_indexOf l D cI cJ ad had a1 a2 _ _ hF) (cwV 2 hts gX4_read_X4_indexOf rfl rfl rfl hdV_X4_indexOf ⟨Nat.le_of_ble_eq_true rfl, Nat.le_of_ble_eq_true rfl⟩) e_S rfl rfl hl.1 rfl (Nat.le_of_ble_eq_true rfl) dX4_read_7 ⟨Nat.zero_le _, Nat.zero_le _⟩) hS (fun _ h => h) (fun r_1 M_1 H locs hP hS hF => ?_)
  refine goI (rSN (rest := []) S hK hP (ctX6_at l D cI cJ ad had 10 rfl r_1 _ _ hF) ⟨va_cnB 2 hts ggX4_read_X6_at rfl rfl rfl (hK.2 _ nw_RX4_29) (hts (.initialized RX6) (by decide +kernel)) hdS_X6_at ⟨Nat.le_of_ble_eq_true rfl, Nat.le_of_ble_eq_true rfl⟩, hts (.static yX6_at) (by decide +kernel), trivial⟩ rfl hl.1 rfl (Nat.le_of_ble_eq_true rfl) dX4_read_10 ⟨Nat.zero_le _, Nat.zero_le _⟩) hS (fun _ h => h) (fun r_2 M_2 H locs hP hS hF => ?_)
  exact retI S hr hlocks hP hS hF dX4_read_13
def bX3_done_4 (Q : Int32 → Mm → Prop) (J_4 : Int32 → Int32 → Mm → Prop) (x1_4 : Int32) (x2_4 : Int32) (m4 : Mm) : Prop := (((gi m4 23) ≤ x2_4 → (Q x1_4 m4)) ∧ (¬ (gi m4 23) ≤ x2_4 → (wX6_at 26 x2_4 (fun r_2 M_2 => ((r_2 = (2 : Int32) → (J_4 (x1_4 + 1) (x2_4 + 1) M_2)) ∧ (¬ r_2 = (2 : Int32) → (J_4 x1_4 (x2_4 + 1) M_2)))) m4)))
def lX3_done_4 (Q : Int32 → Mm → Prop) (x1_4 : Int32) (x2_4 : Int32) (m4 : Mm) : Prop := ∀ I : Int32 → Int32 → Mm → Prop, (∀ J : Int32 → Int32 → Mm → Prop, (∀ (x1_4 : Int32) (x2_4 : Int32) (m : Mm), J x1_4 x2_4 m → I x1_4 x2_4 m) → ∀ (x1_4 : Int32) (x2_4 : Int32) (m : Mm), bX3_done_4 Q J x1_4 x2_4 m → I x1_4 x2_4 m) → I x1_4 x2_4 m4
theorem lX3_done_4_mk (Q : Int32 → Mm → Prop) (x1_4 : Int32) (x2_4 : Int32) (m4 : Mm) (h : bX3_done_4 Q (lX3_done_4 Q) x1_4 x2_4 m4) : lX3_done_4 Q x1_4 x2_4 m4 := fun I hI => hI (lX3_done_4 Q) (fun _ _ _ q => q I hI) _ _ _ h
def wX3_done (Q : Int32 → Mm → Prop) (M : Mm) : Prop := (lX3_done_4 Q (0 : Int32) (0 : Int32) M)
set_option maxHeartbeats 4000000 in
set_option maxRecDepth 100000 in
theorem ctX3_done (l : Launch) (D : va_G) (cI cJ : ClassId) (ad : Nat → Nat) (had : inj54 ad)  (Q : Int32 → Mm → Prop) (M : Mm) (hF : wX3_done Q M) : Met l yX3_done wsX3_done ({ frames := 1, cells := 0, slots := 0, locals := 21 } : Room) (PcW D cI cJ ad M [.ref (ad 6)]) (QiW D cI cJ ad Q) 0 0 (Fr ad) := by
  refine entW (y := yX3_done) (ret := some .int) (maxL := 3) (plainFor_of_name (by decide)) rfl (Nat.le_of_ble_eq_true rfl) ?_
  intro p e s m args below meth c ls S hK hr hlocks hP hS hl
  have hx := S.1
  have hb := S.2.1
  have hown := S.2.2.2.1
  have hts := S.2.2.2.2
  have i3 : ∀ w ∈ wsX30, w ∈ wsX3_done := by decide +kernel
  have k30 := hts (.fieldLink RX3 30 "RopeLine$Queue" "comers" "I") (by decide +kernel)
  have k9 := hts (.fieldLink RX3 9 "RopeLine$Queue" "kinds" "[I") (by decide +kernel)
  have hl : lv_has ls 3 [(0, .ref (ad 6))] := hl
  unfold wX3_done at hF
  refine lv_iconst (v := 0) hx hb dX3_done_0 (by decide) ?_
  refine lv_istore_n (lv' := [(1, .int (0 : Int32)), (0, .ref (ad 6))]) hx hb dX3_done_1 rfl hl (by decide) rfl (fun ls hl => ?_)
  refine lv_iconst (v := 0) hx hb dX3_done_2 (by decide) ?_
  refine lv_istore_n (lv' := [(2, .int (0 : Int32)), (1, .int (0 : Int32)), (0, .ref (ad 6))]) hx hb dX3_done_3 rfl hl (by decide) rfl (fun ls hl => ?_)
  have key_4 : ∀ (x1_4 : Int32) (x2_4 : Int32) (m4 : Mm), (lX3_done_4 Q x1_4 x2_4 m4) → Wc p l e ({ frames := 1, cells := 0, slots := 0, locals := 21 } : Room) s m args below meth c D cI cJ ad (MQ below (QiW D cI cJ ad Q) args s 0 0 (Fr ad)) 3 4 [(0, .ref (ad 6)), (1, .int x1_4), (2, .int x2_4)] m4 := by
    intro x1_4 x2_4 m4 hL
    refine hL (fun x1_4 x2_4 m4 => Wc p l e ({ frames := 1, cells := 0, slots := 0, locals := 21 } : Room) s m args below meth c D cI cJ ad (MQ below (QiW D cI cJ ad Q) args s 0 0 (Fr ad)) 3 4 [(0, .ref (ad 6)), (1, .int x1_4), (2, .int x2_4)] m4) ?_
    intro J_4 hJ_4 x1_4 x2_4 m4 hF H locs ls hP hS hl
    unfold bX3_done_4 at hF
    refine lv_iload_n hx hb dX3_done_4 rfl (lv_at hl 2 rfl) ?_
    refine lv_aload_n hx hb dX3_done_5 rfl (lv_at hl 0 rfl) ?_
    refine gF S hK hP i3 e_Q rfl 6 (by decide) k30 f_Q_comers dX3_done_6 ?_
    refine lv_icmp_ge (tgt := 33) hx hb dX3_done_9 (by decide) (fun c_1 => ?_) (fun c_1 => ?_)
    · have hF := hF.1 c_1
      refine lv_iload_n hx hb dX3_done_33 rfl (lv_at hl 1 rfl) ?_
      exact retI S hr hlocks hP hS hF dX3_done_34
    · have hF := hF.2 c_1
      refine lv_aload_n hx hb dX3_done_12 rfl (lv_at hl 0 rfl) ?_
      refine gF S hK hP i3 e_Q rfl 0 (by decide) k9 f_Q_kinds dX3_done_13 ?_
      refine lv_iload_n hx hb dX3_done_16 rfl (lv_at hl 2 rfl) ?_
      refine goI (rSN (rest := []) S hK hP (ctX6_at l D cI cJ ad had 26 rfl x2_4 _ _ hF) ⟨va_cnB 2 hts ggX3_done_X6_at rfl rfl rfl (hK.2 _ nw_RX3_44) (hts (.initialized RX6) (by decide +kernel)) hdS_X6_at ⟨Nat.le_of_ble_eq_true rfl, Nat.le_of_ble_eq_true rfl⟩, hts (.static yX6_at) (by decide +kernel), trivial⟩ rfl hl.1 rfl (Nat.le_of_ble_eq_true rfl) dX3_done_17 ⟨Nat.zero_le _, Nat.zero_le _⟩) hS (fun _ h => h) (fun r_2 M_2 H locs hP hS hF => ?_)
      refine lv_iconst (v := 2) hx hb dX3_done_20 (by decide) ?_
      refine lv_icmp_ne (tgt := 27) hx hb dX3_done_21 (by decide) (fun c_3 => ?_) (fun c_3 => ?_)
      · have hF := hF.2 c_3
        refine lv_iinc (v := (x2_4 + 1)) (lv' := [(2, .int (x2_4 + 1)), (0, .ref (ad 6)), (1, .int x1_4)]) hx hb dX3_done_27 hl (k := 2) rfl rfl (by decide) rfl (fun ls hl => ?_)
        refine lv_goto (tgt := 4) hx hb dX3_done_30 (by decide) ?_
        exact hJ_4 _ _ _ hF _ _ _ hP hS (lv_sub hl [1, 2, 0] rfl)
      · have hF := hF.1 c_3
        refine lv_iinc (v := (x1_4 + 1)) (lv' := [(1, .int (x1_4 + 1)), (0, .ref (ad 6)), (2, .int x2_4)]) hx hb dX3_done_24 hl (k := 1) rfl rfl (by decide) rfl (fun ls hl => ?_)
        refine lv_iinc (v := (x2_4 + 1)) (lv' := [(2, .int (x2_4 + 1)), (1, .int (x1_4 + 1)), (0, .ref (ad 6))]) hx hb dX3_done_27 hl (k := 2) rfl rfl (by decide) rfl (fun ls hl => ?_)
        refine lv_goto (tgt := 4) hx hb dX3_done_30 (by decide) ?_
        exact hJ_4 _ _ _ hF _ _ _ hP hS (lv_sub hl [2, 1, 0] rfl)
  exact key_4 _ _ _ hF _ _ _ hP hS (lv_sub hl [2, 1, 0] rfl)
