def wX0_forgets (Q : Mm → Prop) (M : Mm) : Prop := (∀ M_1 : Mm, M_1 = (si M 22 (0 : Int32)) → (Q M_1))
set_option maxHeartbeats 4000000 in
set_option maxRecDepth 100000 in
theorem ctX0_forgets (l : Launch) (D : va_G) (cI cJ : ClassId) (ad : Nat → Nat) (had : inj54 ad)  (Q : Mm → Prop) (M : Mm) (hF : wX0_forgets Q M) : Met l yX0_forgets wsX0_forgets ({ frames := 0, cells := 0, slots := 0, locals := 0 } : Room) (PcW D cI cJ ad M [.ref (ad 5)]) (QvW D cI cJ ad Q) 0 0 (Fr ad) := by
  refine entW (y := yX0_forgets) (ret := none) (maxL := 1) (plainFor_of_name (by decide)) rfl (Nat.le_of_ble_eq_true rfl) ?_
  intro p e s m args below meth c ls S hK hr hlocks hP hS hl
  have hx := S.1
  have hb := S.2.1
  have hown := S.2.2.2.1
  have hts := S.2.2.2.2
  have i0 : ∀ w ∈ wsX00, w ∈ wsX0_forgets := by decide +kernel
  have k25 := hts (.fieldLink RX0 25 "RopeLine$Gains" "knowsBest" "Z") (by decide +kernel)
  have hl : lv_has ls 1 [(0, .ref (ad 5))] := hl
  unfold wX0_forgets at hF
  refine lv_aload_n hx hb dX0_forgets_0 rfl (lv_at hl 0 rfl) ?_
  refine lv_iconst (v := 0) hx hb dX0_forgets_1 (by decide) ?_
  refine pF S hK had hP hS i0 tyX0_ok nmX0 e_G rfl 3 (by decide) k25 rfl rfl rfl (Nat.lt_of_lt_of_eq (by decide) len_G.symm) s_G_knowsBest dX0_forgets_2 (fun M_1 H locs eM_1 hP hS => ?_)
  have hF := hF M_1 eM_1
  exact retV S hr hlocks hP hS hF dX0_forgets_5
def bX0_rowBecomes_10 (Q : Mm → Prop) (J_10 : Int32 → Int32 → Mm → Prop) (x3_10 : Int32) (x4_10 : Int32) (m10 : Mm) : Prop := ((x4_10 < 0 → (Q m10)) ∧ (¬ x4_10 < 0 → (wX6_set 24 x4_10 (x3_10 - x3_10 / (6 : Int32) * (6 : Int32)) (fun M_2 => (J_10 (x3_10 / (6 : Int32)) (x4_10 + (-1)) M_2)) m10)))
def lX0_rowBecomes_10 (Q : Mm → Prop) (x3_10 : Int32) (x4_10 : Int32) (m10 : Mm) : Prop := ∀ I : Int32 → Int32 → Mm → Prop, (∀ J : Int32 → Int32 → Mm → Prop, (∀ (x3_10 : Int32) (x4_10 : Int32) (m : Mm), J x3_10 x4_10 m → I x3_10 x4_10 m) → ∀ (x3_10 : Int32) (x4_10 : Int32) (m : Mm), bX0_rowBecomes_10 Q J x3_10 x4_10 m → I x3_10 x4_10 m) → I x3_10 x4_10 m10
theorem lX0_rowBecomes_10_mk (Q : Mm → Prop) (x3_10 : Int32) (x4_10 : Int32) (m10 : Mm) (h : bX0_rowBecomes_10 Q (lX0_rowBecomes_10 Q) x3_10 x4_10 m10) : lX0_rowBecomes_10 Q x3_10 x4_10 m10 := fun I hI => hI (lX0_rowBecomes_10 Q) (fun _ _ _ q => q I hI) _ _ _ h
def wX0_rowBecomes (a2 : Int32) (Q : Mm → Prop) (M : Mm) : Prop := (lX0_rowBecomes_10 Q a2 ((gi M 14) - (1 : Int32)) M)
set_option maxHeartbeats 4000000 in
set_option maxRecDepth 100000 in
theorem ctX0_rowBecomes (l : Launch) (D : va_G) (cI cJ : ClassId) (ad : Nat → Nat) (had : inj54 ad) (a2 : Int32) (Q : Mm → Prop) (M : Mm) (hF : wX0_rowBecomes a2 Q M) : Met l yX0_rowBecomes wsX0_rowBecomes ({ frames := 1, cells := 0, slots := 0, locals := 22 } : Room) (PcW D cI cJ ad M [.ref (ad 5), .ref (ad 3), .int a2]) (QvW D cI cJ ad Q) 0 0 (Fr ad) := by
  refine entW (y := yX0_rowBecomes) (ret := none) (maxL := 5) (plainFor_of_name (by decide)) rfl (Nat.le_of_ble_eq_true rfl) ?_
  intro p e s m args below meth c ls S hK hr hlocks hP hS hl
  have hx := S.1
  have hb := S.2.1
  have hown := S.2.2.2.1
  have hts := S.2.2.2.2
  have i2 : ∀ w ∈ wsX20, w ∈ wsX0_rowBecomes := by decide +kernel
  have i0 : ∀ w ∈ wsX00, w ∈ wsX0_rowBecomes := by decide +kernel
  have k18 := hts (.fieldLink RX0 18 "RopeLine$Gains" "row" "[I") (by decide +kernel)
  have hl : lv_has ls 5 [(0, .ref (ad 5)), (1, .ref (ad 3)), (2, .int a2)] := hl
  unfold wX0_rowBecomes at hF
  refine lv_iload_n hx hb dX0_rowBecomes_0 rfl (lv_at hl 2 rfl) ?_
  refine lv_istore_n (lv' := [(3, .int a2), (0, .ref (ad 5)), (1, .ref (ad 3)), (2, .int a2)]) hx hb dX0_rowBecomes_1 rfl hl (by decide) rfl (fun ls hl => ?_)
  refine lv_aload_n hx hb dX0_rowBecomes_2 rfl (lv_at hl 2 rfl) ?_
  refine gN S hK hP i2 e_P rfl 6 (by decide) nw_RX0_33 f_P_sorts dX0_rowBecomes_3 ?_
  refine lv_iconst (v := 1) hx hb dX0_rowBecomes_6 (by decide) ?_
  refine lv_isub hx hb dX0_rowBecomes_7 ?_
  refine lv_istore (lv' := [(4, .int ((gi M 14) - (1 : Int32))), (3, .int a2), (0, .ref (ad 5)), (1, .ref (ad 3)), (2, .int a2)]) hx hb dX0_rowBecomes_8 hl (by decide) rfl (fun ls hl => ?_)
  have key_10 : ∀ (x3_10 : Int32) (x4_10 : Int32) (m10 : Mm), (lX0_rowBecomes_10 Q x3_10 x4_10 m10) → Wc p l e ({ frames := 1, cells := 0, slots := 0, locals := 22 } : Room) s m args below meth c D cI cJ ad (MQ below (QvW D cI cJ ad Q) args s 0 0 (Fr ad)) 5 10 [(0, .ref (ad 5)), (3, .int x3_10), (4, .int x4_10)] m10 := by
    intro x3_10 x4_10 m10 hL
    refine hL (fun x3_10 x4_10 m10 => Wc p l e ({ frames := 1, cells := 0, slots := 0, locals := 22 } : Room) s m args below meth c D cI cJ ad (MQ below (QvW D cI cJ ad Q) args s 0 0 (Fr ad)) 5 10 [(0, .ref (ad 5)), (3, .int x3_10), (4, .int x4_10)] m10) ?_
    intro J_10 hJ_10 x3_10 x4_10 m10 hF H locs ls hP hS hl
    unfold bX0_rowBecomes_10 at hF
    refine lv_iload hx hb dX0_rowBecomes_10 (lv_at hl 2 rfl) ?_
    refine lv_if_lt (tgt := 39) hx hb dX0_rowBecomes_12 (by decide) (fun c_1 => ?_) (fun c_1 => ?_)
    · have hF := hF.1 c_1
      exact retV S hr hlocks hP hS hF dX0_rowBecomes_39
    · have hF := hF.2 c_1
      refine lv_aload_n hx hb dX0_rowBecomes_15 rfl (lv_at hl 0 rfl) ?_
      refine gF S hK hP i0 e_G rfl 1 (by decide) k18 f_G_row dX0_rowBecomes_16 ?_
      refine lv_iload hx hb dX0_rowBecomes_19 (lv_at hl 2 rfl) ?_
      refine lv_iload_n hx hb dX0_rowBecomes_21 rfl (lv_at hl 1 rfl) ?_
      refine lv_bipush (v := 6) hx hb dX0_rowBecomes_22 (by decide) ?_
      refine lv_irem hx hb dX0_rowBecomes_24 (by decide) ?_
      refine goV (rSN (rest := []) S hK hP (ctX6_set l D cI cJ ad had 24 rfl x4_10 (x3_10 - x3_10 / (6 : Int32) * (6 : Int32)) _ _ hF) ⟨va_cnB 3 hts ggX0_rowBecomes_X6_set rfl rfl rfl (hK.2 _ nw_RX0_72) (hts (.initialized RX6) (by decide +kernel)) hdS_X6_set ⟨Nat.le_of_ble_eq_true rfl, Nat.le_of_ble_eq_true rfl⟩, hts (.static yX6_set) (by decide +kernel), trivial⟩ rfl hl.1 rfl (Nat.le_of_ble_eq_true rfl) dX0_rowBecomes_25 ⟨Nat.zero_le _, Nat.zero_le _⟩) hS (fun _ h => h) (fun M_2 H locs hP hS hF => ?_)
      refine lv_iload_n hx hb dX0_rowBecomes_28 rfl (lv_at hl 1 rfl) ?_
      refine lv_bipush (v := 6) hx hb dX0_rowBecomes_29 (by decide) ?_
      refine lv_idiv hx hb dX0_rowBecomes_31 (by decide) ?_
      refine lv_istore_n (lv' := [(3, .int (x3_10 / (6 : Int32))), (0, .ref (ad 5)), (4, .int x4_10)]) hx hb dX0_rowBecomes_32 rfl hl (by decide) rfl (fun ls hl => ?_)
      refine lv_iinc (v := (x4_10 + (-1))) (lv' := [(4, .int (x4_10 + (-1))), (3, .int (x3_10 / (6 : Int32))), (0, .ref (ad 5))]) hx hb dX0_rowBecomes_33 hl (k := 2) rfl rfl (by decide) rfl (fun ls hl => ?_)
      refine lv_goto (tgt := 10) hx hb dX0_rowBecomes_36 (by decide) ?_
      exact hJ_10 _ _ _ hF _ _ _ hP hS (lv_sub hl [2, 1, 0] rfl)
  exact key_10 _ _ _ hF _ _ _ hP hS (lv_sub hl [2, 1, 0] rfl)
def wX1_grows (o : Nat) (a1 : Int32) (Q : Int64 → Mm → Prop) (M : Mm) : Prop := ((a1 = 0 → (wX6_at (16+4*o) a1 (fun r_3 M_3 => (Q (((12 : Int32) * r_3).toInt64) M_3)) M)) ∧ (¬ a1 = 0 → (wX6_at (16+4*o) a1 (fun r_2 M_2 => (Q ((((12 : Int32) - (gi M (18+2*o))) * r_2).toInt64) M_2)) M)))
set_option maxHeartbeats 4000000 in
set_option maxRecDepth 100000 in
theorem ctX1_grows (l : Launch) (D : va_G) (cI cJ : ClassId) (ad : Nat → Nat) (had : inj54 ad) (o : Nat) (ho : o < 2) (a1 : Int32) (Q : Int64 → Mm → Prop) (M : Mm) (hF : wX1_grows o a1 Q M) : Met l yX1_grows wsX1_grows ({ frames := 1, cells := 0, slots := 0, locals := 21 } : Room) (PcW D cI cJ ad M [.ref (ad (4+3*o)), .int a1]) (QlW D cI cJ ad Q) 0 0 (Fr ad) := by
  refine entW (y := yX1_grows) (ret := some .long) (maxL := 2) (plainFor_of_name (by decide)) rfl (Nat.le_of_ble_eq_true rfl) ?_
  intro p e s m args below meth c ls S hK hr hlocks hP hS hl
  have hx := S.1
  have hb := S.2.1
  have hown := S.2.2.2.1
  have hts := S.2.2.2.2
  have i1 : ∀ w ∈ wsX10, w ∈ wsX1_grows := by decide +kernel
  have k31 := hts (.fieldLink RX1 31 "RopeLine$Lengths" "served" "I") (by decide +kernel)
  have k9 := hts (.fieldLink RX1 9 "RopeLine$Lengths" "joining" "[I") (by decide +kernel)
  have hl : lv_has ls 2 [(0, .ref (ad (4+3*o))), (1, .int a1)] := hl
  unfold wX1_grows at hF
  refine lv_iload_n hx hb dX1_grows_0 rfl (lv_at hl 1 rfl) ?_
  refine lv_if_ne (tgt := 9) hx hb dX1_grows_1 (by decide) (fun c_1 => ?_) (fun c_1 => ?_)
  · have hF := hF.2 c_1
    refine lv_bipush (v := 12) hx hb dX1_grows_9 (by decide) ?_
    refine lv_aload_n hx hb dX1_grows_11 rfl (lv_at hl 0 rfl) ?_
    refine gF S hK hP i1 (e_L ho) rfl 4 (by decide) k31 f_L_served dX1_grows_12 ?_
    refine lv_isub hx hb dX1_grows_15 ?_
    refine lv_aload_n hx hb dX1_grows_16 rfl (lv_at hl 0 rfl) ?_
    refine gF S hK hP i1 (e_L ho) rfl 0 (by decide) k9 f_L_joining dX1_grows_17 ?_
    refine lv_iload_n hx hb dX1_grows_20 rfl (lv_at hl 1 rfl) ?_
    refine goI (rSN (rest := [.int ((12 : Int32) - (gi M (18+2*o)))]) S hK hP (ctX6_at l D cI cJ ad had (16+4*o) (is_L_joining ho) a1 _ _ hF) ⟨va_cnB 2 hts ggX1_grows_X6_at rfl rfl rfl (hK.2 _ nw_RX1_48) (hts (.initialized RX6) (by decide +kernel)) hdS_X6_at ⟨Nat.le_of_ble_eq_true rfl, Nat.le_of_ble_eq_true rfl⟩, hts (.static yX6_at) (by decide +kernel), trivial⟩ rfl hl.1 rfl (Nat.le_of_ble_eq_true rfl) dX1_grows_21 ⟨Nat.zero_le _, Nat.zero_le _⟩) hS (fun _ h => h) (fun r_2 M_2 H locs hP hS hF => ?_)
    refine lv_imul hx hb dX1_grows_24 ?_
    refine lv_i2l hx hb dX1_grows_25 rfl ?_
    exact retL S hr hlocks hP hS hF dX1_grows_26
  · have hF := hF.1 c_1
    refine lv_bipush (v := 12) hx hb dX1_grows_4 (by decide) ?_
    refine lv_goto (tgt := 16) hx hb dX1_grows_6 (by decide) ?_
    refine lv_aload_n hx hb dX1_grows_16 rfl (lv_at hl 0 rfl) ?_
    refine gF S hK hP i1 (e_L ho) rfl 0 (by decide) k9 f_L_joining dX1_grows_17 ?_
    refine lv_iload_n hx hb dX1_grows_20 rfl (lv_at hl 1 rfl) ?_
    refine goI (rSN (rest := [.int (12 : Int32)]) S hK hP (ctX6_at l D cI cJ ad had (16+4*o) (is_L_joining ho) a1 _ _ hF) ⟨va_cnB 2 hts ggX1_grows_X6_at rfl rfl rfl (hK.2 _ nw_RX1_48) (hts (.initialized RX6) (by decide +kernel)) hdS_X6_at ⟨Nat.le_of_ble_eq_true rfl, Nat.le_of_ble_eq_true rfl⟩, hts (.static yX6_at) (by decide +kernel), trivial⟩ rfl hl.1 rfl (Nat.le_of_ble_eq_true rfl) dX1_grows_21 ⟨Nat.zero_le _, Nat.zero_le _⟩) hS (fun _ h => h) (fun r_3 M_3 H locs hP hS hF => ?_)
    refine lv_imul hx hb dX1_grows_24 ?_
    refine lv_i2l hx hb dX1_grows_25 rfl ?_
    exact retL S hr hlocks hP hS hF dX1_grows_26
def wX1_shrinks (o : Nat) (a1 : Int32) (Q : Int64 → Mm → Prop) (M : Mm) : Prop := ((a1 = 0 → (Q (0 : Int64) M)) ∧ (¬ a1 = 0 → (wX6_at (16+4*o) (a1 - (1 : Int32)) (fun r_2 M_2 => (Q (((gi M (18+2*o)) * ((gi M (19+2*o)) - r_2)).toInt64) M_2)) M)))
set_option maxHeartbeats 4000000 in
set_option maxRecDepth 100000 in
theorem ctX1_shrinks (l : Launch) (D : va_G) (cI cJ : ClassId) (ad : Nat → Nat) (had : inj54 ad) (o : Nat) (ho : o < 2) (a1 : Int32) (Q : Int64 → Mm → Prop) (M : Mm) (hF : wX1_shrinks o a1 Q M) : Met l yX1_shrinks wsX1_shrinks ({ frames := 1, cells := 0, slots := 0, locals := 21 } : Room) (PcW D cI cJ ad M [.ref (ad (4+3*o)), .int a1]) (QlW D cI cJ ad Q) 0 0 (Fr ad) := by
  refine entW (y := yX1_shrinks) (ret := some .long) (maxL := 2) (plainFor_of_name (by decide)) rfl (Nat.le_of_ble_eq_true rfl) ?_
  intro p e s m args below meth c ls S hK hr hlocks hP hS hl
  have hx := S.1
  have hb := S.2.1
  have hown := S.2.2.2.1
  have hts := S.2.2.2.2
  have i1 : ∀ w ∈ wsX10, w ∈ wsX1_shrinks := by decide +kernel
  have k31 := hts (.fieldLink RX1 31 "RopeLine$Lengths" "served" "I") (by decide +kernel)
  have k32 := hts (.fieldLink RX1 32 "RopeLine$Lengths" "whole" "I") (by decide +kernel)
  have k9 := hts (.fieldLink RX1 9 "RopeLine$Lengths" "joining" "[I") (by decide +kernel)
  have hl : lv_has ls 2 [(0, .ref (ad (4+3*o))), (1, .int a1)] := hl
  unfold wX1_shrinks at hF
  refine lv_iload_n hx hb dX1_shrinks_0 rfl (lv_at hl 1 rfl) ?_
  refine lv_if_ne (tgt := 8) hx hb dX1_shrinks_1 (by decide) (fun c_1 => ?_) (fun c_1 => ?_)
  · have hF := hF.2 c_1
    refine lv_aload_n hx hb dX1_shrinks_8 rfl (lv_at hl 0 rfl) ?_
    refine gF S hK hP i1 (e_L ho) rfl 4 (by decide) k31 f_L_served dX1_shrinks_9 ?_
    refine lv_aload_n hx hb dX1_shrinks_12 rfl (lv_at hl 0 rfl) ?_
    refine gF S hK hP i1 (e_L ho) rfl 5 (by decide) k32 f_L_whole dX1_shrinks_13 ?_
    refine lv_aload_n hx hb dX1_shrinks_16 rfl (lv_at hl 0 rfl) ?_
    refine gF S hK hP i1 (e_L ho) rfl 0 (by decide) k9 f_L_joining dX1_shrinks_17 ?_
    refine lv_iload_n hx hb dX1_shrinks_20 rfl (lv_at hl 1 rfl) ?_
    refine lv_iconst (v := 1) hx hb dX1_shrinks_21 (by decide) ?_
    refine lv_isub hx hb dX1_shrinks_22 ?_
    refine goI (rSN (rest := [.int (gi M (19+2*o)), .int (gi M (18+2*o))]) S hK hP (ctX6_at l D cI cJ ad had (16+4*o) (is_L_joining ho) (a1 - (1 : Int32)) _ _ hF) ⟨va_cnB 2 hts ggX1_shrinks_X6_at rfl rfl rfl (hK.2 _ nw_RX1_48) (hts (.initialized RX6) (by decide +kernel)) hdS_X6_at ⟨Nat.le_of_ble_eq_true rfl, Nat.le_of_ble_eq_true rfl⟩, hts (.static yX6_at) (by decide +kernel), trivial⟩ rfl hl.1 rfl (Nat.le_of_ble_eq_true rfl) dX1_shrinks_23 ⟨Nat.zero_le _, Nat.zero_le _⟩) hS (fun _ h => h) (fun r_2 M_2 H locs hP hS hF => ?_)
    refine lv_isub hx hb dX1_shrinks_26 ?_
    refine lv_imul hx hb dX1_shrinks_27 ?_
    refine lv_i2l hx hb dX1_shrinks_28 rfl ?_
    exact retL S hr hlocks hP hS hF dX1_shrinks_29
  · have hF := hF.1 c_1
    refine lv_lconst (v := 0) hx hb dX1_shrinks_4 (by decide) ?_
    refine lv_goto (tgt := 29) hx hb dX1_shrinks_5 (by decide) ?_
    exact retL S hr hlocks hP hS hF dX1_shrinks_29
def bX1_weigh_126 (o : Nat) (Q : Mm → Prop) (J_2 : Int32 → Mm → Prop) (J_34 : Int32 → Mm → Prop) (J_126 : Int32 → Mm → Prop) (x1_126 : Int32) (m126 : Mm) : Prop := (((6 : Int32) ≤ x1_126 → (Q m126)) ∧ (¬ (6 : Int32) ≤ x1_126 → (wX6_at_ (17+4*o) x1_126 (fun r_6 M_6 => (∀ M_7 : Mm, M_7 = (sj M_6 o ((gj m126 o) + r_6)) → (J_126 (x1_126 + 1) M_7))) m126)))
def lX1_weigh_126 (o : Nat) (Q : Mm → Prop) (J_2 : Int32 → Mm → Prop) (J_34 : Int32 → Mm → Prop) (x1_126 : Int32) (m126 : Mm) : Prop := ∀ I : Int32 → Mm → Prop, (∀ J : Int32 → Mm → Prop, (∀ (x1_126 : Int32) (m : Mm), J x1_126 m → I x1_126 m) → ∀ (x1_126 : Int32) (m : Mm), bX1_weigh_126 o Q J_2 J_34 J x1_126 m → I x1_126 m) → I x1_126 m126
theorem lX1_weigh_126_mk (o : Nat) (Q : Mm → Prop) (J_2 : Int32 → Mm → Prop) (J_34 : Int32 → Mm → Prop) (x1_126 : Int32) (m126 : Mm) (h : bX1_weigh_126 o Q J_2 J_34 (lX1_weigh_126 o Q J_2 J_34) x1_126 m126) : lX1_weigh_126 o Q J_2 J_34 x1_126 m126 := fun I hI => hI (lX1_weigh_126 o Q J_2 J_34) (fun _ _ q => q I hI) _ _ h
def bX1_weigh_80 (o : Nat) (x1_34 : Int32) (Q : Mm → Prop) (J_2 : Int32 → Mm → Prop) (J_34 : Int32 → Mm → Prop) (J_80 : Int32 → Mm → Prop) (x2_80 : Int32) (m80 : Mm) : Prop := ((x1_34 ≤ x2_80 → (J_34 (x1_34 + 1) m80)) ∧ (¬ x1_34 ≤ x2_80 → (wX6_at_ (17+4*o) x2_80 (fun r_18 M_18 => (wX1_shrinks o x1_34 (fun r_19 M_19 => (wX6_set_ (17+4*o) x2_80 (r_18 * r_19) (fun M_20 => (J_80 (x2_80 + 1) M_20)) M_19)) M_18)) m80)))
def lX1_weigh_80 (o : Nat) (x1_34 : Int32) (Q : Mm → Prop) (J_2 : Int32 → Mm → Prop) (J_34 : Int32 → Mm → Prop) (x2_80 : Int32) (m80 : Mm) : Prop := ∀ I : Int32 → Mm → Prop, (∀ J : Int32 → Mm → Prop, (∀ (x2_80 : Int32) (m : Mm), J x2_80 m → I x2_80 m) → ∀ (x2_80 : Int32) (m : Mm), bX1_weigh_80 o x1_34 Q J_2 J_34 J x2_80 m → I x2_80 m) → I x2_80 m80
theorem lX1_weigh_80_mk (o : Nat) (x1_34 : Int32) (Q : Mm → Prop) (J_2 : Int32 → Mm → Prop) (J_34 : Int32 → Mm → Prop) (x2_80 : Int32) (m80 : Mm) (h : bX1_weigh_80 o x1_34 Q J_2 J_34 (lX1_weigh_80 o x1_34 Q J_2 J_34) x2_80 m80) : lX1_weigh_80 o x1_34 Q J_2 J_34 x2_80 m80 := fun I hI => hI (lX1_weigh_80 o x1_34 Q J_2 J_34) (fun _ _ q => q I hI) _ _ h
def bX1_weigh_34 (o : Nat) (Q : Mm → Prop) (J_2 : Int32 → Mm → Prop) (J_34 : Int32 → Mm → Prop) (x1_34 : Int32) (m34 : Mm) : Prop := (((6 : Int32) ≤ x1_34 → (∀ M_4 : Mm, M_4 = (sj m34 o (0 : Int64)) → (lX1_weigh_126 o Q J_2 J_34 (0 : Int32) M_4))) ∧ (¬ (6 : Int32) ≤ x1_34 → (wX1_grows o (x1_34 - (1 : Int32)) (fun r_8 M_8 => ((r_8 ≤ (0 : Int64) → (∀ M_10 : Mm, M_10 = (sj M_8 o (0 : Int64)) → (lX1_weigh_126 o Q J_2 J_34 (0 : Int32) M_10))) ∧ (¬ r_8 ≤ (0 : Int64) → (wX6_at_ (17+4*o) (x1_34 - (1 : Int32)) (fun r_14 M_14 => (wX1_grows o (x1_34 - (1 : Int32)) (fun r_15 M_15 => (wX6_set_ (17+4*o) x1_34 (r_14 * r_15) (fun M_16 => (lX1_weigh_80 o x1_34 Q J_2 J_34 (0 : Int32) M_16)) M_15)) M_14)) M_8)))) m34)))
def lX1_weigh_34 (o : Nat) (Q : Mm → Prop) (J_2 : Int32 → Mm → Prop) (x1_34 : Int32) (m34 : Mm) : Prop := ∀ I : Int32 → Mm → Prop, (∀ J : Int32 → Mm → Prop, (∀ (x1_34 : Int32) (m : Mm), J x1_34 m → I x1_34 m) → ∀ (x1_34 : Int32) (m : Mm), bX1_weigh_34 o Q J_2 J x1_34 m → I x1_34 m) → I x1_34 m34
theorem lX1_weigh_34_mk (o : Nat) (Q : Mm → Prop) (J_2 : Int32 → Mm → Prop) (x1_34 : Int32) (m34 : Mm) (h : bX1_weigh_34 o Q J_2 (lX1_weigh_34 o Q J_2) x1_34 m34) : lX1_weigh_34 o Q J_2 x1_34 m34 := fun I hI => hI (lX1_weigh_34 o Q J_2) (fun _ _ q => q I hI) _ _ h
def bX1_weigh_2 (o : Nat) (Q : Mm → Prop) (J_2 : Int32 → Mm → Prop) (x1_2 : Int32) (m2 : Mm) : Prop := (((6 : Int32) ≤ x1_2 → (wX6_set_ (17+4*o) (0 : Int32) (1 : Int64) (fun M_2 => (lX1_weigh_34 o Q J_2 (1 : Int32) M_2)) m2)) ∧ (¬ (6 : Int32) ≤ x1_2 → (wX6_set_ (17+4*o) x1_2 (0 : Int64) (fun M_21 => (J_2 (x1_2 + 1) M_21)) m2)))
def lX1_weigh_2 (o : Nat) (Q : Mm → Prop) (x1_2 : Int32) (m2 : Mm) : Prop := ∀ I : Int32 → Mm → Prop, (∀ J : Int32 → Mm → Prop, (∀ (x1_2 : Int32) (m : Mm), J x1_2 m → I x1_2 m) → ∀ (x1_2 : Int32) (m : Mm), bX1_weigh_2 o Q J x1_2 m → I x1_2 m) → I x1_2 m2
theorem lX1_weigh_2_mk (o : Nat) (Q : Mm → Prop) (x1_2 : Int32) (m2 : Mm) (h : bX1_weigh_2 o Q (lX1_weigh_2 o Q) x1_2 m2) : lX1_weigh_2 o Q x1_2 m2 := fun I hI => hI (lX1_weigh_2 o Q) (fun _ _ q => q I hI) _ _ h
def wX1_weigh (o : Nat) (Q : Mm → Prop) (M : Mm) : Prop := (lX1_weigh_2 o Q (0 : Int32) M)
set_option maxHeartbeats 4000000 in
set_option maxRecDepth 100000 in
theorem ctX1_weigh (l : Launch) (D : va_G) (cI cJ : ClassId) (ad : Nat → Nat) (had : inj54 ad) (o : Nat) (ho : o < 2) (Q : Mm → Prop) (M : Mm) (hF : wX1_weigh o Q M) : Met l yX1_weigh wsX1_weigh ({ frames := 2, cells := 0, slots := 0, locals := 42 } : Room) (PcW D cI cJ ad M [.ref (ad (4+3*o))]) (QvW D cI cJ ad Q) 0 0 (Fr ad) := by
  refine entW (y := yX1_weigh) (ret := none) (maxL := 3) (plainFor_of_name (by decide)) rfl (Nat.le_of_ble_eq_true rfl) ?_
  intro p e s m args below meth c ls S hK hr hlocks hP hS hl
  have hx := S.1
  have hb := S.2.1
  have hown := S.2.2.2.1
  have hts := S.2.2.2.2
  have i1 : ∀ w ∈ wsX10, w ∈ wsX1_weigh := by decide +kernel
  have k15 := hts (.fieldLink RX1 15 "RopeLine$Lengths" "weights" "[J") (by decide +kernel)
  have k64 := hts (.fieldLink RX1 64 "RopeLine$Lengths" "total" "J") (by decide +kernel)
  have hl : lv_has ls 3 [(0, .ref (ad (4+3*o)))] := hl
  unfold wX1_weigh at hF
  refine lv_iconst (v := 0) hx hb dX1_weigh_0 (by decide) ?_
  refine lv_istore_n (lv' := [(1, .int (0 : Int32)), (0, .ref (ad (4+3*o)))]) hx hb dX1_weigh_1 rfl hl (by decide) rfl (fun ls hl => ?_)
  have key_2 : ∀ (x1_2 : Int32) (m2 : Mm), (lX1_weigh_2 o Q x1_2 m2) → Wc p l e ({ frames := 2, cells := 0, slots := 0, locals := 42 } : Room) s m args below meth c D cI cJ ad (MQ below (QvW D cI cJ ad Q) args s 0 0 (Fr ad)) 3 2 [(0, .ref (ad (4+3*o))), (1, .int x1_2)] m2 := by
    intro x1_2 m2 hL
    refine hL (fun x1_2 m2 => Wc p l e ({ frames := 2, cells := 0, slots := 0, locals := 42 } : Room) s m args below meth c D cI cJ ad (MQ below (QvW D cI cJ ad Q) args s 0 0 (Fr ad)) 3 2 [(0, .ref (ad (4+3*o))), (1, .int x1_2)] m2) ?_
    intro J_2 hJ_2 x1_2 m2 hF H locs ls hP hS hl
    unfold bX1_weigh_2 at hF
    refine lv_iload_n hx hb dX1_weigh_2 rfl (lv_at hl 1 rfl) ?_
    refine lv_bipush (v := 6) hx hb dX1_weigh_3 (by decide) ?_
    refine lv_icmp_ge (tgt := 23) hx hb dX1_weigh_5 (by decide) (fun c_1 => ?_) (fun c_1 => ?_)
    · have hF := hF.1 c_1
      refine lv_aload_n hx hb dX1_weigh_23 rfl (lv_at hl 0 rfl) ?_
      refine gF S hK hP i1 (e_L ho) rfl 1 (by decide) k15 f_L_weights dX1_weigh_24 ?_
      refine lv_iconst (v := 0) hx hb dX1_weigh_27 (by decide) ?_
      refine lv_lconst (v := 1) hx hb dX1_weigh_28 (by decide) ?_
      refine goV (rSN (rest := []) S hK hP (ctX6_set_ l D cI cJ ad had (17+4*o) (is_L_weights ho) (0 : Int32) (1 : Int64) _ _ hF) ⟨va_cnB 3 hts ggX1_weigh_X6_set_ rfl rfl rfl (hK.2 _ nw_RX1_51) (hts (.initialized RX6) (by decide +kernel)) hdS_X6_set_ ⟨Nat.le_of_ble_eq_true rfl, Nat.le_of_ble_eq_true rfl⟩, hts (.static yX6_set_) (by decide +kernel), trivial⟩ rfl hl.1 rfl (Nat.le_of_ble_eq_true rfl) dX1_weigh_29 ⟨Nat.zero_le _, Nat.zero_le _⟩) hS (fun _ h => h) (fun M_2 H locs hP hS hF => ?_)
      refine lv_iconst (v := 1) hx hb dX1_weigh_32 (by decide) ?_
      refine lv_istore_n (lv' := [(1, .int (1 : Int32)), (0, .ref (ad (4+3*o)))]) hx hb dX1_weigh_33 rfl hl (by decide) rfl (fun ls hl => ?_)
      have key_34 : ∀ (x1_34 : Int32) (m34 : Mm), (lX1_weigh_34 o Q J_2 x1_34 m34) → Wc p l e ({ frames := 2, cells := 0, slots := 0, locals := 42 } : Room) s m args below meth c D cI cJ ad (MQ below (QvW D cI cJ ad Q) args s 0 0 (Fr ad)) 3 34 [(0, .ref (ad (4+3*o))), (1, .int x1_34)] m34 := by
        intro x1_34 m34 hL
        refine hL (fun x1_34 m34 => Wc p l e ({ frames := 2, cells := 0, slots := 0, locals := 42 } : Room) s m args below meth c D cI cJ ad (MQ below (QvW D cI cJ ad Q) args s 0 0 (Fr ad)) 3 34 [(0, .ref (ad (4+3*o))), (1, .int x1_34)] m34) ?_
        intro J_34 hJ_34 x1_34 m34 hF H locs ls hP hS hl
        unfold bX1_weigh_34 at hF
        refine lv_iload_n hx hb dX1_weigh_34 rfl (lv_at hl 1 rfl) ?_
        refine lv_bipush (v := 6) hx hb dX1_weigh_35 (by decide) ?_
        refine lv_icmp_ge (tgt := 119) hx hb dX1_weigh_37 (by decide) (fun c_3 => ?_) (fun c_3 => ?_)
        · have hF := hF.1 c_3
          refine lv_aload_n hx hb dX1_weigh_119 rfl (lv_at hl 0 rfl) ?_
          refine lv_lconst (v := 0) hx hb dX1_weigh_120 (by decide) ?_
          refine pF S hK had hP hS i1 tyX1_ok nmX1 (e_L ho) rfl 6 (by decide) k64 rfl rfl rfl (Nat.lt_of_lt_of_eq (by decide) len_L.symm) (s_L_total ho) dX1_weigh_121 (fun M_4 H locs eM_4 hP hS => ?_)
          have hF := hF M_4 eM_4
          refine lv_iconst (v := 0) hx hb dX1_weigh_124 (by decide) ?_
          refine lv_istore_n (lv' := [(1, .int (0 : Int32)), (0, .ref (ad (4+3*o)))]) hx hb dX1_weigh_125 rfl hl (by decide) rfl (fun ls hl => ?_)
          have key_126 : ∀ (x1_126 : Int32) (m126 : Mm), (lX1_weigh_126 o Q J_2 J_34 x1_126 m126) → Wc p l e ({ frames := 2, cells := 0, slots := 0, locals := 42 } : Room) s m args below meth c D cI cJ ad (MQ below (QvW D cI cJ ad Q) args s 0 0 (Fr ad)) 3 126 [(0, .ref (ad (4+3*o))), (1, .int x1_126)] m126 := by
            intro x1_126 m126 hL
            refine hL (fun x1_126 m126 => Wc p l e ({ frames := 2, cells := 0, slots := 0, locals := 42 } : Room) s m args below meth c D cI cJ ad (MQ below (QvW D cI cJ ad Q) args s 0 0 (Fr ad)) 3 126 [(0, .ref (ad (4+3*o))), (1, .int x1_126)] m126) ?_
            intro J_126 hJ_126 x1_126 m126 hF H locs ls hP hS hl
            unfold bX1_weigh_126 at hF
            refine lv_iload_n hx hb dX1_weigh_126 rfl (lv_at hl 1 rfl) ?_
            refine lv_bipush (v := 6) hx hb dX1_weigh_127 (by decide) ?_
            refine lv_icmp_ge (tgt := 155) hx hb dX1_weigh_129 (by decide) (fun c_5 => ?_) (fun c_5 => ?_)
            · have hF := hF.1 c_5
              exact retV S hr hlocks hP hS hF dX1_weigh_155
            · have hF := hF.2 c_5
              refine lv_aload_n hx hb dX1_weigh_132 rfl (lv_at hl 0 rfl) ?_
              refine lv_dup hx hb dX1_weigh_133 rfl ?_
              refine gF S hK hP i1 (e_L ho) rfl 6 (by decide) k64 f_L_total dX1_weigh_134 ?_
              refine lv_aload_n hx hb dX1_weigh_137 rfl (lv_at hl 0 rfl) ?_
              refine gF S hK hP i1 (e_L ho) rfl 1 (by decide) k15 f_L_weights dX1_weigh_138 ?_
              refine lv_iload_n hx hb dX1_weigh_141 rfl (lv_at hl 1 rfl) ?_
              refine goL (rSN (rest := [.long (gj m126 o), .ref (ad (4+3*o))]) S hK hP (ctX6_at_ l D cI cJ ad had (17+4*o) (is_L_weights ho) x1_126 _ _ hF) ⟨va_cnB 2 hts ggX1_weigh_X6_at_ rfl rfl rfl (hK.2 _ nw_RX1_58) (hts (.initialized RX6) (by decide +kernel)) hdS_X6_at_ ⟨Nat.le_of_ble_eq_true rfl, Nat.le_of_ble_eq_true rfl⟩, hts (.static yX6_at_) (by decide +kernel), trivial⟩ rfl hl.1 rfl (Nat.le_of_ble_eq_true rfl) dX1_weigh_142 ⟨Nat.zero_le _, Nat.zero_le _⟩) hS (fun _ h => h) (fun r_6 M_6 H locs hP hS hF => ?_)
              refine lv_ladd hx hb dX1_weigh_145 ?_
              refine pF S hK had hP hS i1 tyX1_ok nmX1 (e_L ho) rfl 6 (by decide) k64 rfl rfl rfl (Nat.lt_of_lt_of_eq (by decide) len_L.symm) (s_L_total ho) dX1_weigh_146 (fun M_7 H locs eM_7 hP hS => ?_)
              have hF := hF M_7 eM_7
              refine lv_iinc (v := (x1_126 + 1)) (lv' := [(1, .int (x1_126 + 1)), (0, .ref (ad (4+3*o)))]) hx hb dX1_weigh_149 hl (k := 1) rfl rfl (by decide) rfl (fun ls hl => ?_)
              refine lv_goto (tgt := 126) hx hb dX1_weigh_152 (by decide) ?_
              exact hJ_126 _ _ hF _ _ _ hP hS (lv_sub hl [1, 0] rfl)
          exact key_126 _ _ hF _ _ _ hP hS (lv_sub hl [1, 0] rfl)
        · have hF := hF.2 c_3
          refine lv_aload_n hx hb dX1_weigh_40 rfl (lv_at hl 0 rfl) ?_
          refine lv_iload_n hx hb dX1_weigh_41 rfl (lv_at hl 1 rfl) ?_
          refine lv_iconst (v := 1) hx hb dX1_weigh_42 (by decide) ?_
          refine lv_isub hx hb dX1_weigh_43 ?_
          refine goL (rV (rest := []) S hK hP (ctX1_grows l D cI cJ ad had o ho (x1_34 - (1 : Int32)) _ _ hF) (cwV 1 hts gX1_weigh_X1_grows rfl rfl rfl hdV_X1_grows ⟨Nat.le_of_ble_eq_true rfl, Nat.le_of_ble_eq_true rfl⟩) (e_L ho) rfl rfl hl.1 rfl (Nat.le_of_ble_eq_true rfl) dX1_weigh_44 ⟨Nat.zero_le _, Nat.zero_le _⟩) hS (fun _ h => h) (fun r_8 M_8 H locs hP hS hF => ?_)
          refine lv_lconst (v := 0) hx hb dX1_weigh_47 (by decide) ?_
          refine W.lcmp hx hb dX1_weigh_48 ?_
          refine lv_if_le (tgt := 119) hx hb dX1_weigh_49 (by decide) (fun c_9 => ?_) (fun c_9 => ?_)
          · have hF := hF.1 (lc_le.mp c_9)
            refine lv_aload_n hx hb dX1_weigh_119 rfl (lv_at hl 0 rfl) ?_
            refine lv_lconst (v := 0) hx hb dX1_weigh_120 (by decide) ?_
            refine pF S hK had hP hS i1 tyX1_ok nmX1 (e_L ho) rfl 6 (by decide) k64 rfl rfl rfl (Nat.lt_of_lt_of_eq (by decide) len_L.symm) (s_L_total ho) dX1_weigh_121 (fun M_10 H locs eM_10 hP hS => ?_)
            have hF := hF M_10 eM_10
            refine lv_iconst (v := 0) hx hb dX1_weigh_124 (by decide) ?_
            refine lv_istore_n (lv' := [(1, .int (0 : Int32)), (0, .ref (ad (4+3*o)))]) hx hb dX1_weigh_125 rfl hl (by decide) rfl (fun ls hl => ?_)
            have key_126 : ∀ (x1_126 : Int32) (m126 : Mm), (lX1_weigh_126 o Q J_2 J_34 x1_126 m126) → Wc p l e ({ frames := 2, cells := 0, slots := 0, locals := 42 } : Room) s m args below meth c D cI cJ ad (MQ below (QvW D cI cJ ad Q) args s 0 0 (Fr ad)) 3 126 [(0, .ref (ad (4+3*o))), (1, .int x1_126)] m126 := by
              intro x1_126 m126 hL
              refine hL (fun x1_126 m126 => Wc p l e ({ frames := 2, cells := 0, slots := 0, locals := 42 } : Room) s m args below meth c D cI cJ ad (MQ below (QvW D cI cJ ad Q) args s 0 0 (Fr ad)) 3 126 [(0, .ref (ad (4+3*o))), (1, .int x1_126)] m126) ?_
              intro J_126 hJ_126 x1_126 m126 hF H locs ls hP hS hl
              unfold bX1_weigh_126 at hF
              refine lv_iload_n hx hb dX1_weigh_126 rfl (lv_at hl 1 rfl) ?_
              refine lv_bipush (v := 6) hx hb dX1_weigh_127 (by decide) ?_
              refine lv_icmp_ge (tgt := 155) hx hb dX1_weigh_129 (by decide) (fun c_11 => ?_) (fun c_11 => ?_)
              · have hF := hF.1 c_11
                exact retV S hr hlocks hP hS hF dX1_weigh_155
              · have hF := hF.2 c_11
                refine lv_aload_n hx hb dX1_weigh_132 rfl (lv_at hl 0 rfl) ?_
                refine lv_dup hx hb dX1_weigh_133 rfl ?_
                refine gF S hK hP i1 (e_L ho) rfl 6 (by decide) k64 f_L_total dX1_weigh_134 ?_
                refine lv_aload_n hx hb dX1_weigh_137 rfl (lv_at hl 0 rfl) ?_
                refine gF S hK hP i1 (e_L ho) rfl 1 (by decide) k15 f_L_weights dX1_weigh_138 ?_
                refine lv_iload_n hx hb dX1_weigh_141 rfl (lv_at hl 1 rfl) ?_
                refine goL (rSN (rest := [.long (gj m126 o), .ref (ad (4+3*o))]) S hK hP (ctX6_at_ l D cI cJ ad had (17+4*o) (is_L_weights ho) x1_126 _ _ hF) ⟨va_cnB 2 hts ggX1_weigh_X6_at_ rfl rfl rfl (hK.2 _ nw_RX1_58) (hts (.initialized RX6) (by decide +kernel)) hdS_X6_at_ ⟨Nat.le_of_ble_eq_true rfl, Nat.le_of_ble_eq_true rfl⟩, hts (.static yX6_at_) (by decide +kernel), trivial⟩ rfl hl.1 rfl (Nat.le_of_ble_eq_true rfl) dX1_weigh_142 ⟨Nat.zero_le _, Nat.zero_le _⟩) hS (fun _ h => h) (fun r_12 M_12 H locs hP hS hF => ?_)
                refine lv_ladd hx hb dX1_weigh_145 ?_
                refine pF S hK had hP hS i1 tyX1_ok nmX1 (e_L ho) rfl 6 (by decide) k64 rfl rfl rfl (Nat.lt_of_lt_of_eq (by decide) len_L.symm) (s_L_total ho) dX1_weigh_146 (fun M_13 H locs eM_13 hP hS => ?_)
                have hF := hF M_13 eM_13
                refine lv_iinc (v := (x1_126 + 1)) (lv' := [(1, .int (x1_126 + 1)), (0, .ref (ad (4+3*o)))]) hx hb dX1_weigh_149 hl (k := 1) rfl rfl (by decide) rfl (fun ls hl => ?_)
                refine lv_goto (tgt := 126) hx hb dX1_weigh_152 (by decide) ?_
                exact hJ_126 _ _ hF _ _ _ hP hS (lv_sub hl [1, 0] rfl)
            exact key_126 _ _ hF _ _ _ hP hS (lv_sub hl [1, 0] rfl)
          · have hF := hF.2 (fun q => c_9 (lc_le.mpr q))
            refine lv_aload_n hx hb dX1_weigh_52 rfl (lv_at hl 0 rfl) ?_
            refine gF S hK hP i1 (e_L ho) rfl 1 (by decide) k15 f_L_weights dX1_weigh_53 ?_
            refine lv_iload_n hx hb dX1_weigh_56 rfl (lv_at hl 1 rfl) ?_
            refine lv_aload_n hx hb dX1_weigh_57 rfl (lv_at hl 0 rfl) ?_
            refine gF S hK hP i1 (e_L ho) rfl 1 (by decide) k15 f_L_weights dX1_weigh_58 ?_
            refine lv_iload_n hx hb dX1_weigh_61 rfl (lv_at hl 1 rfl) ?_
            refine lv_iconst (v := 1) hx hb dX1_weigh_62 (by decide) ?_
            refine lv_isub hx hb dX1_weigh_63 ?_
            refine goL (rSN (rest := [.int x1_34, .ref (ad (17+4*o))]) S hK hP (ctX6_at_ l D cI cJ ad had (17+4*o) (is_L_weights ho) (x1_34 - (1 : Int32)) _ _ hF) ⟨va_cnB 2 hts ggX1_weigh_X6_at_ rfl rfl rfl (hK.2 _ nw_RX1_58) (hts (.initialized RX6) (by decide +kernel)) hdS_X6_at_ ⟨Nat.le_of_ble_eq_true rfl, Nat.le_of_ble_eq_true rfl⟩, hts (.static yX6_at_) (by decide +kernel), trivial⟩ rfl hl.1 rfl (Nat.le_of_ble_eq_true rfl) dX1_weigh_64 ⟨Nat.zero_le _, Nat.zero_le _⟩) hS (fun _ h => h) (fun r_14 M_14 H locs hP hS hF => ?_)
            refine lv_aload_n hx hb dX1_weigh_67 rfl (lv_at hl 0 rfl) ?_
            refine lv_iload_n hx hb dX1_weigh_68 rfl (lv_at hl 1 rfl) ?_
            refine lv_iconst (v := 1) hx hb dX1_weigh_69 (by decide) ?_
            refine lv_isub hx hb dX1_weigh_70 ?_
            refine goL (rV (rest := [.long r_14, .int x1_34, .ref (ad (17+4*o))]) S hK hP (ctX1_grows l D cI cJ ad had o ho (x1_34 - (1 : Int32)) _ _ hF) (cwV 1 hts gX1_weigh_X1_grows rfl rfl rfl hdV_X1_grows ⟨Nat.le_of_ble_eq_true rfl, Nat.le_of_ble_eq_true rfl⟩) (e_L ho) rfl rfl hl.1 rfl (Nat.le_of_ble_eq_true rfl) dX1_weigh_71 ⟨Nat.zero_le _, Nat.zero_le _⟩) hS (fun _ h => h) (fun r_15 M_15 H locs hP hS hF => ?_)
            refine lv_lmul hx hb dX1_weigh_74 ?_
            refine goV (rSN (rest := []) S hK hP (ctX6_set_ l D cI cJ ad had (17+4*o) (is_L_weights ho) x1_34 (r_14 * r_15) _ _ hF) ⟨va_cnB 3 hts ggX1_weigh_X6_set_ rfl rfl rfl (hK.2 _ nw_RX1_51) (hts (.initialized RX6) (by decide +kernel)) hdS_X6_set_ ⟨Nat.le_of_ble_eq_true rfl, Nat.le_of_ble_eq_true rfl⟩, hts (.static yX6_set_) (by decide +kernel), trivial⟩ rfl hl.1 rfl (Nat.le_of_ble_eq_true rfl) dX1_weigh_75 ⟨Nat.zero_le _, Nat.zero_le _⟩) hS (fun _ h => h) (fun M_16 H locs hP hS hF => ?_)
            refine lv_iconst (v := 0) hx hb dX1_weigh_78 (by decide) ?_
            refine lv_istore_n (lv' := [(2, .int (0 : Int32)), (0, .ref (ad (4+3*o))), (1, .int x1_34)]) hx hb dX1_weigh_79 rfl hl (by decide) rfl (fun ls hl => ?_)
            have key_80 : ∀ (x2_80 : Int32) (m80 : Mm), (lX1_weigh_80 o x1_34 Q J_2 J_34 x2_80 m80) → Wc p l e ({ frames := 2, cells := 0, slots := 0, locals := 42 } : Room) s m args below meth c D cI cJ ad (MQ below (QvW D cI cJ ad Q) args s 0 0 (Fr ad)) 3 80 [(0, .ref (ad (4+3*o))), (1, .int x1_34), (2, .int x2_80)] m80 := by
              intro x2_80 m80 hL
              refine hL (fun x2_80 m80 => Wc p l e ({ frames := 2, cells := 0, slots := 0, locals := 42 } : Room) s m args below meth c D cI cJ ad (MQ below (QvW D cI cJ ad Q) args s 0 0 (Fr ad)) 3 80 [(0, .ref (ad (4+3*o))), (1, .int x1_34), (2, .int x2_80)] m80) ?_
              intro J_80 hJ_80 x2_80 m80 hF H locs ls hP hS hl
              unfold bX1_weigh_80 at hF
              refine lv_iload_n hx hb dX1_weigh_80 rfl (lv_at hl 2 rfl) ?_
              refine lv_iload_n hx hb dX1_weigh_81 rfl (lv_at hl 1 rfl) ?_
              refine lv_icmp_ge (tgt := 113) hx hb dX1_weigh_82 (by decide) (fun c_17 => ?_) (fun c_17 => ?_)
              · have hF := hF.1 c_17
                refine lv_iinc (v := (x1_34 + 1)) (lv' := [(1, .int (x1_34 + 1)), (0, .ref (ad (4+3*o))), (2, .int x2_80)]) hx hb dX1_weigh_113 hl (k := 1) rfl rfl (by decide) rfl (fun ls hl => ?_)
                refine lv_goto (tgt := 34) hx hb dX1_weigh_116 (by decide) ?_
                exact hJ_34 _ _ hF _ _ _ hP hS (lv_sub hl [1, 0] rfl)
              · have hF := hF.2 c_17
                refine lv_aload_n hx hb dX1_weigh_85 rfl (lv_at hl 0 rfl) ?_
                refine gF S hK hP i1 (e_L ho) rfl 1 (by decide) k15 f_L_weights dX1_weigh_86 ?_
                refine lv_iload_n hx hb dX1_weigh_89 rfl (lv_at hl 2 rfl) ?_
                refine lv_aload_n hx hb dX1_weigh_90 rfl (lv_at hl 0 rfl) ?_
                refine gF S hK hP i1 (e_L ho) rfl 1 (by decide) k15 f_L_weights dX1_weigh_91 ?_
                refine lv_iload_n hx hb dX1_weigh_94 rfl (lv_at hl 2 rfl) ?_
                refine goL (rSN (rest := [.int x2_80, .ref (ad (17+4*o))]) S hK hP (ctX6_at_ l D cI cJ ad had (17+4*o) (is_L_weights ho) x2_80 _ _ hF) ⟨va_cnB 2 hts ggX1_weigh_X6_at_ rfl rfl rfl (hK.2 _ nw_RX1_58) (hts (.initialized RX6) (by decide +kernel)) hdS_X6_at_ ⟨Nat.le_of_ble_eq_true rfl, Nat.le_of_ble_eq_true rfl⟩, hts (.static yX6_at_) (by decide +kernel), trivial⟩ rfl hl.1 rfl (Nat.le_of_ble_eq_true rfl) dX1_weigh_95 ⟨Nat.zero_le _, Nat.zero_le _⟩) hS (fun _ h => h) (fun r_18 M_18 H locs hP hS hF => ?_)
                refine lv_aload_n hx hb dX1_weigh_98 rfl (lv_at hl 0 rfl) ?_
                refine lv_iload_n hx hb dX1_weigh_99 rfl (lv_at hl 1 rfl) ?_
                refine goL (rV (rest := [.long r_18, .int x2_80, .ref (ad (17+4*o))]) S hK hP (ctX1_shrinks l D cI cJ ad had o ho x1_34 _ _ hF) (cwV 1 hts gX1_weigh_X1_shrinks rfl rfl rfl hdV_X1_shrinks ⟨Nat.le_of_ble_eq_true rfl, Nat.le_of_ble_eq_true rfl⟩) (e_L ho) rfl rfl hl.1 rfl (Nat.le_of_ble_eq_true rfl) dX1_weigh_100 ⟨Nat.zero_le _, Nat.zero_le _⟩) hS (fun _ h => h) (fun r_19 M_19 H locs hP hS hF => ?_)
                refine lv_lmul hx hb dX1_weigh_103 ?_
                refine goV (rSN (rest := []) S hK hP (ctX6_set_ l D cI cJ ad had (17+4*o) (is_L_weights ho) x2_80 (r_18 * r_19) _ _ hF) ⟨va_cnB 3 hts ggX1_weigh_X6_set_ rfl rfl rfl (hK.2 _ nw_RX1_51) (hts (.initialized RX6) (by decide +kernel)) hdS_X6_set_ ⟨Nat.le_of_ble_eq_true rfl, Nat.le_of_ble_eq_true rfl⟩, hts (.static yX6_set_) (by decide +kernel), trivial⟩ rfl hl.1 rfl (Nat.le_of_ble_eq_true rfl) dX1_weigh_104 ⟨Nat.zero_le _, Nat.zero_le _⟩) hS (fun _ h => h) (fun M_20 H locs hP hS hF => ?_)
                refine lv_iinc (v := (x2_80 + 1)) (lv' := [(2, .int (x2_80 + 1)), (0, .ref (ad (4+3*o))), (1, .int x1_34)]) hx hb dX1_weigh_107 hl (k := 2) rfl rfl (by decide) rfl (fun ls hl => ?_)
                refine lv_goto (tgt := 80) hx hb dX1_weigh_110 (by decide) ?_
                exact hJ_80 _ _ hF _ _ _ hP hS (lv_sub hl [1, 2, 0] rfl)
            exact key_80 _ _ hF _ _ _ hP hS (lv_sub hl [1, 2, 0] rfl)
      exact key_34 _ _ hF _ _ _ hP hS (lv_sub hl [1, 0] rfl)
    · have hF := hF.2 c_1
      refine lv_aload_n hx hb dX1_weigh_8 rfl (lv_at hl 0 rfl) ?_
      refine gF S hK hP i1 (e_L ho) rfl 1 (by decide) k15 f_L_weights dX1_weigh_9 ?_
      refine lv_iload_n hx hb dX1_weigh_12 rfl (lv_at hl 1 rfl) ?_
      refine lv_lconst (v := 0) hx hb dX1_weigh_13 (by decide) ?_
      refine goV (rSN (rest := []) S hK hP (ctX6_set_ l D cI cJ ad had (17+4*o) (is_L_weights ho) x1_2 (0 : Int64) _ _ hF) ⟨va_cnB 3 hts ggX1_weigh_X6_set_ rfl rfl rfl (hK.2 _ nw_RX1_51) (hts (.initialized RX6) (by decide +kernel)) hdS_X6_set_ ⟨Nat.le_of_ble_eq_true rfl, Nat.le_of_ble_eq_true rfl⟩, hts (.static yX6_set_) (by decide +kernel), trivial⟩ rfl hl.1 rfl (Nat.le_of_ble_eq_true rfl) dX1_weigh_14 ⟨Nat.zero_le _, Nat.zero_le _⟩) hS (fun _ h => h) (fun M_21 H locs hP hS hF => ?_)
      refine lv_iinc (v := (x1_2 + 1)) (lv' := [(1, .int (x1_2 + 1)), (0, .ref (ad (4+3*o)))]) hx hb dX1_weigh_17 hl (k := 1) rfl rfl (by decide) rfl (fun ls hl => ?_)
      refine lv_goto (tgt := 2) hx hb dX1_weigh_20 (by decide) ?_
      exact hJ_2 _ _ hF _ _ _ hP hS (lv_sub hl [1, 0] rfl)
  exact key_2 _ _ hF _ _ _ hP hS (lv_sub hl [1, 0] rfl)
def bX1_comeByBars_16 (o : Nat) (k2_ : Nat) (Q : Mm → Prop) (J_16 : Int32 → Mm → Prop) (x3_16 : Int32) (m16 : Mm) : Prop := (((6 : Int32) ≤ x3_16 → (wX1_weigh o (fun M_4 => (Q M_4)) m16)) ∧ (¬ (6 : Int32) ≤ x3_16 → (wX2_joining k2_ x3_16 (fun r_5 M_5 => (wX6_set (16+4*o) x3_16 r_5 (fun M_6 => (J_16 (x3_16 + 1) M_6)) M_5)) m16)))
def lX1_comeByBars_16 (o : Nat) (k2_ : Nat) (Q : Mm → Prop) (x3_16 : Int32) (m16 : Mm) : Prop := ∀ I : Int32 → Mm → Prop, (∀ J : Int32 → Mm → Prop, (∀ (x3_16 : Int32) (m : Mm), J x3_16 m → I x3_16 m) → ∀ (x3_16 : Int32) (m : Mm), bX1_comeByBars_16 o k2_ Q J x3_16 m → I x3_16 m) → I x3_16 m16
theorem lX1_comeByBars_16_mk (o : Nat) (k2_ : Nat) (Q : Mm → Prop) (x3_16 : Int32) (m16 : Mm) (h : bX1_comeByBars_16 o k2_ Q (lX1_comeByBars_16 o k2_ Q) x3_16 m16) : lX1_comeByBars_16 o k2_ Q x3_16 m16 := fun I hI => hI (lX1_comeByBars_16 o k2_ Q) (fun _ _ q => q I hI) _ _ h
def wX1_comeByBars (o : Nat) (k2_ : Nat) (Q : Mm → Prop) (M : Mm) : Prop := (∀ M_1 : Mm, M_1 = (si M (18+2*o) (gi M 12)) → (∀ M_2 : Mm, M_2 = (si M_1 (19+2*o) (12 : Int32)) → (lX1_comeByBars_16 o k2_ Q (0 : Int32) M_2)))
set_option maxHeartbeats 4000000 in
set_option maxRecDepth 100000 in
theorem ctX1_comeByBars (l : Launch) (D : va_G) (cI cJ : ClassId) (ad : Nat → Nat) (had : inj54 ad) (o : Nat) (ho : o < 2) (k2_ : Nat) (hk2_ : isA k2_ = true) (Q : Mm → Prop) (M : Mm) (hF : wX1_comeByBars o k2_ Q M) : Met l yX1_comeByBars wsX1_comeByBars ({ frames := 3, cells := 0, slots := 0, locals := 64 } : Room) (PcW D cI cJ ad M [.ref (ad (4+3*o)), .ref (ad 3), .ref (ad k2_)]) (QvW D cI cJ ad Q) 0 0 (Fr ad) := by
  refine entW (y := yX1_comeByBars) (ret := none) (maxL := 4) (plainFor_of_name (by decide)) rfl (Nat.le_of_ble_eq_true rfl) ?_
  intro p e s m args below meth c ls S hK hr hlocks hP hS hl
  have hx := S.1
  have hb := S.2.1
  have hown := S.2.2.2.1
  have hts := S.2.2.2.2
  have i2 : ∀ w ∈ wsX20, w ∈ wsX1_comeByBars := by decide +kernel
  have i1 : ∀ w ∈ wsX10, w ∈ wsX1_comeByBars := by decide +kernel
  have k31 := hts (.fieldLink RX1 31 "RopeLine$Lengths" "served" "I") (by decide +kernel)
  have k32 := hts (.fieldLink RX1 32 "RopeLine$Lengths" "whole" "I") (by decide +kernel)
  have k9 := hts (.fieldLink RX1 9 "RopeLine$Lengths" "joining" "[I") (by decide +kernel)
  have hl : lv_has ls 4 [(0, .ref (ad (4+3*o))), (1, .ref (ad 3)), (2, .ref (ad k2_))] := hl
  unfold wX1_comeByBars at hF
  refine lv_aload_n hx hb dX1_comeByBars_0 rfl (lv_at hl 0 rfl) ?_
  refine lv_aload_n hx hb dX1_comeByBars_1 rfl (lv_at hl 1 rfl) ?_
  refine gN S hK hP i2 e_P rfl 4 (by decide) nw_RX1_25 f_P_served dX1_comeByBars_2 ?_
  refine pF S hK had hP hS i1 tyX1_ok nmX1 (e_L ho) rfl 4 (by decide) k31 rfl rfl rfl (Nat.lt_of_lt_of_eq (by decide) len_L.symm) (s_L_served ho) dX1_comeByBars_5 (fun M_1 H locs eM_1 hP hS => ?_)
  have hF := hF M_1 eM_1
  refine lv_aload_n hx hb dX1_comeByBars_8 rfl (lv_at hl 0 rfl) ?_
  refine lv_bipush (v := 12) hx hb dX1_comeByBars_9 (by decide) ?_
  refine pF S hK had hP hS i1 tyX1_ok nmX1 (e_L ho) rfl 5 (by decide) k32 rfl rfl rfl (Nat.lt_of_lt_of_eq (by decide) len_L.symm) (s_L_whole ho) dX1_comeByBars_11 (fun M_2 H locs eM_2 hP hS => ?_)
  have hF := hF M_2 eM_2
  refine lv_iconst (v := 0) hx hb dX1_comeByBars_14 (by decide) ?_
  refine lv_istore_n (lv' := [(3, .int (0 : Int32)), (0, .ref (ad (4+3*o))), (1, .ref (ad 3)), (2, .ref (ad k2_))]) hx hb dX1_comeByBars_15 rfl hl (by decide) rfl (fun ls hl => ?_)
  have key_16 : ∀ (x3_16 : Int32) (m16 : Mm), (lX1_comeByBars_16 o k2_ Q x3_16 m16) → Wc p l e ({ frames := 3, cells := 0, slots := 0, locals := 64 } : Room) s m args below meth c D cI cJ ad (MQ below (QvW D cI cJ ad Q) args s 0 0 (Fr ad)) 4 16 [(0, .ref (ad (4+3*o))), (1, .ref (ad 3)), (2, .ref (ad k2_)), (3, .int x3_16)] m16 := by
    intro x3_16 m16 hL
    refine hL (fun x3_16 m16 => Wc p l e ({ frames := 3, cells := 0, slots := 0, locals := 64 } : Room) s m args below meth c D cI cJ ad (MQ below (QvW D cI cJ ad Q) args s 0 0 (Fr ad)) 4 16 [(0, .ref (ad (4+3*o))), (1, .ref (ad 3)), (2, .ref (ad k2_)), (3, .int x3_16)] m16) ?_
    intro J_16 hJ_16 x3_16 m16 hF H locs ls hP hS hl
    unfold bX1_comeByBars_16 at hF
    refine lv_iload_n hx hb dX1_comeByBars_16 rfl (lv_at hl 3 rfl) ?_
    refine lv_bipush (v := 6) hx hb dX1_comeByBars_17 (by decide) ?_
    refine lv_icmp_ge (tgt := 42) hx hb dX1_comeByBars_19 (by decide) (fun c_3 => ?_) (fun c_3 => ?_)
    · have hF := hF.1 c_3
      refine lv_aload_n hx hb dX1_comeByBars_42 rfl (lv_at hl 0 rfl) ?_
      refine goV (rV (rest := []) S hK hP (ctX1_weigh l D cI cJ ad had o ho _ _ hF) (cwV 0 hts gX1_comeByBars_X1_weigh rfl rfl rfl hdV_X1_weigh ⟨Nat.le_of_ble_eq_true rfl, Nat.le_of_ble_eq_true rfl⟩) (e_L ho) rfl rfl hl.1 rfl (Nat.le_of_ble_eq_true rfl) dX1_comeByBars_43 ⟨Nat.zero_le _, Nat.zero_le _⟩) hS (fun _ h => h) (fun M_4 H locs hP hS hF => ?_)
      exact retV S hr hlocks hP hS hF dX1_comeByBars_46
    · have hF := hF.2 c_3
      refine lv_aload_n hx hb dX1_comeByBars_22 rfl (lv_at hl 0 rfl) ?_
      refine gF S hK hP i1 (e_L ho) rfl 0 (by decide) k9 f_L_joining dX1_comeByBars_23 ?_
      refine lv_iload_n hx hb dX1_comeByBars_26 rfl (lv_at hl 3 rfl) ?_
      refine lv_aload_n hx hb dX1_comeByBars_27 rfl (lv_at hl 1 rfl) ?_
      refine lv_aload_n hx hb dX1_comeByBars_28 rfl (lv_at hl 2 rfl) ?_
      refine lv_iload_n hx hb dX1_comeByBars_29 rfl (lv_at hl 3 rfl) ?_
      refine goI (rV (rest := [.int x3_16, .ref (ad (16+4*o))]) S hK hP (ctX2_joining l D cI cJ ad had k2_ hk2_ x3_16 _ _ hF) (cwV 2 hts gX1_comeByBars_X2_joining rfl rfl rfl hdV_X2_joining ⟨Nat.le_of_ble_eq_true rfl, Nat.le_of_ble_eq_true rfl⟩) e_P rfl rfl hl.1 rfl (Nat.le_of_ble_eq_true rfl) dX1_comeByBars_30 ⟨Nat.zero_le _, Nat.zero_le _⟩) hS (fun _ h => h) (fun r_5 M_5 H locs hP hS hF => ?_)
      refine goV (rSN (rest := []) S hK hP (ctX6_set l D cI cJ ad had (16+4*o) (is_L_joining ho) x3_16 r_5 _ _ hF) ⟨va_cnB 3 hts ggX1_comeByBars_X6_set rfl rfl rfl (hK.2 _ nw_RX1_38) (hts (.initialized RX6) (by decide +kernel)) hdS_X6_set ⟨Nat.le_of_ble_eq_true rfl, Nat.le_of_ble_eq_true rfl⟩, hts (.static yX6_set) (by decide +kernel), trivial⟩ rfl hl.1 rfl (Nat.le_of_ble_eq_true rfl) dX1_comeByBars_33 ⟨Nat.zero_le _, Nat.zero_le _⟩) hS (fun _ h => h) (fun M_6 H locs hP hS hF => ?_)
      refine lv_iinc (v := (x3_16 + 1)) (lv' := [(3, .int (x3_16 + 1)), (0, .ref (ad (4+3*o))), (1, .ref (ad 3)), (2, .ref (ad k2_))]) hx hb dX1_comeByBars_36 hl (k := 3) rfl rfl (by decide) rfl (fun ls hl => ?_)
      refine lv_goto (tgt := 16) hx hb dX1_comeByBars_39 (by decide) ?_
      exact hJ_16 _ _ hF _ _ _ hP hS (lv_sub hl [1, 2, 3, 0] rfl)
  exact key_16 _ _ hF _ _ _ hP hS (lv_sub hl [1, 2, 3, 0] rfl)
def wX1_found (o : Nat) (a1 : Int32) (Q : Int64 → Mm → Prop) (M : Mm) : Prop := ((a1 = 0 → (wX6_at_ (17+4*o) a1 (fun r_4 M_4 => (wX6_at_ (17+4*o) (a1 + (1 : Int32)) (fun r_5 M_5 => (Q ((((12 : Int32).toInt64) * r_4) + (((gi M_4 (18+2*o)).toInt64) * r_5)) M_5)) M_4)) M)) ∧ (¬ a1 = 0 → (wX6_at_ (17+4*o) a1 (fun r_2 M_2 => (wX6_at_ (17+4*o) (a1 + (1 : Int32)) (fun r_3 M_3 => (Q (((((12 : Int32) - (gi M (18+2*o))).toInt64) * r_2) + (((gi M_2 (18+2*o)).toInt64) * r_3)) M_3)) M_2)) M)))
set_option maxHeartbeats 4000000 in
set_option maxRecDepth 100000 in
theorem ctX1_found (l : Launch) (D : va_G) (cI cJ : ClassId) (ad : Nat → Nat) (had : inj54 ad) (o : Nat) (ho : o < 2) (a1 : Int32) (Q : Int64 → Mm → Prop) (M : Mm) (hF : wX1_found o a1 Q M) : Met l yX1_found wsX1_found ({ frames := 1, cells := 0, slots := 0, locals := 21 } : Room) (PcW D cI cJ ad M [.ref (ad (4+3*o)), .int a1]) (QlW D cI cJ ad Q) 0 0 (Fr ad) := by
  refine entW (y := yX1_found) (ret := some .long) (maxL := 2) (plainFor_of_name (by decide)) rfl (Nat.le_of_ble_eq_true rfl) ?_
  intro p e s m args below meth c ls S hK hr hlocks hP hS hl
  have hx := S.1
  have hb := S.2.1
  have hown := S.2.2.2.1
  have hts := S.2.2.2.2
  have i1 : ∀ w ∈ wsX10, w ∈ wsX1_found := by decide +kernel
  have k31 := hts (.fieldLink RX1 31 "RopeLine$Lengths" "served" "I") (by decide +kernel)
  have k15 := hts (.fieldLink RX1 15 "RopeLine$Lengths" "weights" "[J") (by decide +kernel)
  have hl : lv_has ls 2 [(0, .ref (ad (4+3*o))), (1, .int a1)] := hl
  unfold wX1_found at hF
  refine lv_iload_n hx hb dX1_found_0 rfl (lv_at hl 1 rfl) ?_
  refine lv_if_ne (tgt := 9) hx hb dX1_found_1 (by decide) (fun c_1 => ?_) (fun c_1 => ?_)
  · have hF := hF.2 c_1
    refine lv_bipush (v := 12) hx hb dX1_found_9 (by decide) ?_
    refine lv_aload_n hx hb dX1_found_11 rfl (lv_at hl 0 rfl) ?_
    refine gF S hK hP i1 (e_L ho) rfl 4 (by decide) k31 f_L_served dX1_found_12 ?_
    refine lv_isub hx hb dX1_found_15 ?_
    refine lv_i2l hx hb dX1_found_16 rfl ?_
    refine lv_aload_n hx hb dX1_found_17 rfl (lv_at hl 0 rfl) ?_
    refine gF S hK hP i1 (e_L ho) rfl 1 (by decide) k15 f_L_weights dX1_found_18 ?_
    refine lv_iload_n hx hb dX1_found_21 rfl (lv_at hl 1 rfl) ?_
    refine goL (rSN (rest := [.long (((12 : Int32) - (gi M (18+2*o))).toInt64)]) S hK hP (ctX6_at_ l D cI cJ ad had (17+4*o) (is_L_weights ho) a1 _ _ hF) ⟨va_cnB 2 hts ggX1_found_X6_at_ rfl rfl rfl (hK.2 _ nw_RX1_58) (hts (.initialized RX6) (by decide +kernel)) hdS_X6_at_ ⟨Nat.le_of_ble_eq_true rfl, Nat.le_of_ble_eq_true rfl⟩, hts (.static yX6_at_) (by decide +kernel), trivial⟩ rfl hl.1 rfl (Nat.le_of_ble_eq_true rfl) dX1_found_22 ⟨Nat.zero_le _, Nat.zero_le _⟩) hS (fun _ h => h) (fun r_2 M_2 H locs hP hS hF => ?_)
    refine lv_lmul hx hb dX1_found_25 ?_
    refine lv_aload_n hx hb dX1_found_26 rfl (lv_at hl 0 rfl) ?_
    refine gF S hK hP i1 (e_L ho) rfl 4 (by decide) k31 f_L_served dX1_found_27 ?_
    refine lv_i2l hx hb dX1_found_30 rfl ?_
    refine lv_aload_n hx hb dX1_found_31 rfl (lv_at hl 0 rfl) ?_
    refine gF S hK hP i1 (e_L ho) rfl 1 (by decide) k15 f_L_weights dX1_found_32 ?_
    refine lv_iload_n hx hb dX1_found_35 rfl (lv_at hl 1 rfl) ?_
    refine lv_iconst (v := 1) hx hb dX1_found_36 (by decide) ?_
    refine lv_iadd hx hb dX1_found_37 ?_
    refine goL (rSN (rest := [.long ((gi M_2 (18+2*o)).toInt64), .long ((((12 : Int32) - (gi M (18+2*o))).toInt64) * r_2)]) S hK hP (ctX6_at_ l D cI cJ ad had (17+4*o) (is_L_weights ho) (a1 + (1 : Int32)) _ _ hF) ⟨va_cnB 2 hts ggX1_found_X6_at_ rfl rfl rfl (hK.2 _ nw_RX1_58) (hts (.initialized RX6) (by decide +kernel)) hdS_X6_at_ ⟨Nat.le_of_ble_eq_true rfl, Nat.le_of_ble_eq_true rfl⟩, hts (.static yX6_at_) (by decide +kernel), trivial⟩ rfl hl.1 rfl (Nat.le_of_ble_eq_true rfl) dX1_found_38 ⟨Nat.zero_le _, Nat.zero_le _⟩) hS (fun _ h => h) (fun r_3 M_3 H locs hP hS hF => ?_)
    refine lv_lmul hx hb dX1_found_41 ?_
    refine lv_ladd hx hb dX1_found_42 ?_
    exact retL S hr hlocks hP hS hF dX1_found_43
  · have hF := hF.1 c_1
    refine lv_bipush (v := 12) hx hb dX1_found_4 (by decide) ?_
    refine lv_goto (tgt := 16) hx hb dX1_found_6 (by decide) ?_
    refine lv_i2l hx hb dX1_found_16 rfl ?_
    refine lv_aload_n hx hb dX1_found_17 rfl (lv_at hl 0 rfl) ?_
    refine gF S hK hP i1 (e_L ho) rfl 1 (by decide) k15 f_L_weights dX1_found_18 ?_
    refine lv_iload_n hx hb dX1_found_21 rfl (lv_at hl 1 rfl) ?_
    refine goL (rSN (rest := [.long ((12 : Int32).toInt64)]) S hK hP (ctX6_at_ l D cI cJ ad had (17+4*o) (is_L_weights ho) a1 _ _ hF) ⟨va_cnB 2 hts ggX1_found_X6_at_ rfl rfl rfl (hK.2 _ nw_RX1_58) (hts (.initialized RX6) (by decide +kernel)) hdS_X6_at_ ⟨Nat.le_of_ble_eq_true rfl, Nat.le_of_ble_eq_true rfl⟩, hts (.static yX6_at_) (by decide +kernel), trivial⟩ rfl hl.1 rfl (Nat.le_of_ble_eq_true rfl) dX1_found_22 ⟨Nat.zero_le _, Nat.zero_le _⟩) hS (fun _ h => h) (fun r_4 M_4 H locs hP hS hF => ?_)
    refine lv_lmul hx hb dX1_found_25 ?_
    refine lv_aload_n hx hb dX1_found_26 rfl (lv_at hl 0 rfl) ?_
    refine gF S hK hP i1 (e_L ho) rfl 4 (by decide) k31 f_L_served dX1_found_27 ?_
    refine lv_i2l hx hb dX1_found_30 rfl ?_
    refine lv_aload_n hx hb dX1_found_31 rfl (lv_at hl 0 rfl) ?_
    refine gF S hK hP i1 (e_L ho) rfl 1 (by decide) k15 f_L_weights dX1_found_32 ?_
    refine lv_iload_n hx hb dX1_found_35 rfl (lv_at hl 1 rfl) ?_
    refine lv_iconst (v := 1) hx hb dX1_found_36 (by decide) ?_
    refine lv_iadd hx hb dX1_found_37 ?_
    refine goL (rSN (rest := [.long ((gi M_4 (18+2*o)).toInt64), .long (((12 : Int32).toInt64) * r_4)]) S hK hP (ctX6_at_ l D cI cJ ad had (17+4*o) (is_L_weights ho) (a1 + (1 : Int32)) _ _ hF) ⟨va_cnB 2 hts ggX1_found_X6_at_ rfl rfl rfl (hK.2 _ nw_RX1_58) (hts (.initialized RX6) (by decide +kernel)) hdS_X6_at_ ⟨Nat.le_of_ble_eq_true rfl, Nat.le_of_ble_eq_true rfl⟩, hts (.static yX6_at_) (by decide +kernel), trivial⟩ rfl hl.1 rfl (Nat.le_of_ble_eq_true rfl) dX1_found_38 ⟨Nat.zero_le _, Nat.zero_le _⟩) hS (fun _ h => h) (fun r_5 M_5 H locs hP hS hF => ?_)
    refine lv_lmul hx hb dX1_found_41 ?_
    refine lv_ladd hx hb dX1_found_42 ?_
    exact retL S hr hlocks hP hS hF dX1_found_43
def bX1_foundBelow_5 (o : Nat) (a1 : Int32) (Q : Int64 → Mm → Prop) (J_5 : Int64 → Int32 → Mm → Prop) (x2_5 : Int64) (x4_5 : Int32) (m5 : Mm) : Prop := ((a1 ≤ x4_5 → (Q x2_5 m5)) ∧ (¬ a1 ≤ x4_5 → (((6 : Int32) ≤ x4_5 → (Q x2_5 m5)) ∧ (¬ (6 : Int32) ≤ x4_5 → (wX1_found o x4_5 (fun r_3 M_3 => (J_5 (x2_5 + r_3) (x4_5 + 1) M_3)) m5)))))
def lX1_foundBelow_5 (o : Nat) (a1 : Int32) (Q : Int64 → Mm → Prop) (x2_5 : Int64) (x4_5 : Int32) (m5 : Mm) : Prop := ∀ I : Int64 → Int32 → Mm → Prop, (∀ J : Int64 → Int32 → Mm → Prop, (∀ (x2_5 : Int64) (x4_5 : Int32) (m : Mm), J x2_5 x4_5 m → I x2_5 x4_5 m) → ∀ (x2_5 : Int64) (x4_5 : Int32) (m : Mm), bX1_foundBelow_5 o a1 Q J x2_5 x4_5 m → I x2_5 x4_5 m) → I x2_5 x4_5 m5
theorem lX1_foundBelow_5_mk (o : Nat) (a1 : Int32) (Q : Int64 → Mm → Prop) (x2_5 : Int64) (x4_5 : Int32) (m5 : Mm) (h : bX1_foundBelow_5 o a1 Q (lX1_foundBelow_5 o a1 Q) x2_5 x4_5 m5) : lX1_foundBelow_5 o a1 Q x2_5 x4_5 m5 := fun I hI => hI (lX1_foundBelow_5 o a1 Q) (fun _ _ _ q => q I hI) _ _ _ h
def wX1_foundBelow (o : Nat) (a1 : Int32) (Q : Int64 → Mm → Prop) (M : Mm) : Prop := (lX1_foundBelow_5 o a1 Q (0 : Int64) (0 : Int32) M)
set_option maxHeartbeats 4000000 in
set_option maxRecDepth 100000 in
theorem ctX1_foundBelow (l : Launch) (D : va_G) (cI cJ : ClassId) (ad : Nat → Nat) (had : inj54 ad) (o : Nat) (ho : o < 2) (a1 : Int32) (Q : Int64 → Mm → Prop) (M : Mm) (hF : wX1_foundBelow o a1 Q M) : Met l yX1_foundBelow wsX1_foundBelow ({ frames := 2, cells := 0, slots := 0, locals := 42 } : Room) (PcW D cI cJ ad M [.ref (ad (4+3*o)), .int a1]) (QlW D cI cJ ad Q) 0 0 (Fr ad) := by
  refine entW (y := yX1_foundBelow) (ret := some .long) (maxL := 5) (plainFor_of_name (by decide)) rfl (Nat.le_of_ble_eq_true rfl) ?_
  intro p e s m args below meth c ls S hK hr hlocks hP hS hl
  have hx := S.1
  have hb := S.2.1
  have hown := S.2.2.2.1
  have hts := S.2.2.2.2
  have hl : lv_has ls 5 [(0, .ref (ad (4+3*o))), (1, .int a1)] := hl
  unfold wX1_foundBelow at hF
  refine lv_lconst (v := 0) hx hb dX1_foundBelow_0 (by decide) ?_
  refine lv_lstore_n (lv' := [(2, .long (0 : Int64)), (0, .ref (ad (4+3*o))), (1, .int a1)]) hx hb dX1_foundBelow_1 rfl hl (by decide) rfl (fun ls hl => ?_)
  refine lv_iconst (v := 0) hx hb dX1_foundBelow_2 (by decide) ?_
  refine lv_istore (lv' := [(4, .int (0 : Int32)), (2, .long (0 : Int64)), (0, .ref (ad (4+3*o))), (1, .int a1)]) hx hb dX1_foundBelow_3 hl (by decide) rfl (fun ls hl => ?_)
  have key_5 : ∀ (x2_5 : Int64) (x4_5 : Int32) (m5 : Mm), (lX1_foundBelow_5 o a1 Q x2_5 x4_5 m5) → Wc p l e ({ frames := 2, cells := 0, slots := 0, locals := 42 } : Room) s m args below meth c D cI cJ ad (MQ below (QlW D cI cJ ad Q) args s 0 0 (Fr ad)) 5 5 [(0, .ref (ad (4+3*o))), (1, .int a1), (2, .long x2_5), (4, .int x4_5)] m5 := by
    intro x2_5 x4_5 m5 hL
    refine hL (fun x2_5 x4_5 m5 => Wc p l e ({ frames := 2, cells := 0, slots := 0, locals := 42 } : Room) s m args below meth c D cI cJ ad (MQ below (QlW D cI cJ ad Q) args s 0 0 (Fr ad)) 5 5 [(0, .ref (ad (4+3*o))), (1, .int a1), (2, .long x2_5), (4, .int x4_5)] m5) ?_
    intro J_5 hJ_5 x2_5 x4_5 m5 hF H locs ls hP hS hl
    unfold bX1_foundBelow_5 at hF
    refine lv_iload hx hb dX1_foundBelow_5 (lv_at hl 3 rfl) ?_
    refine lv_iload_n hx hb dX1_foundBelow_7 rfl (lv_at hl 1 rfl) ?_
    refine lv_icmp_ge (tgt := 33) hx hb dX1_foundBelow_8 (by decide) (fun c_1 => ?_) (fun c_1 => ?_)
    · have hF := hF.1 c_1
      refine lv_lload_n hx hb dX1_foundBelow_33 rfl (lv_at hl 2 rfl) ?_
      exact retL S hr hlocks hP hS hF dX1_foundBelow_34
    · have hF := hF.2 c_1
      refine lv_iload hx hb dX1_foundBelow_11 (lv_at hl 3 rfl) ?_
      refine lv_bipush (v := 6) hx hb dX1_foundBelow_13 (by decide) ?_
      refine lv_icmp_ge (tgt := 33) hx hb dX1_foundBelow_15 (by decide) (fun c_2 => ?_) (fun c_2 => ?_)
      · have hF := hF.1 c_2
        refine lv_lload_n hx hb dX1_foundBelow_33 rfl (lv_at hl 2 rfl) ?_
        exact retL S hr hlocks hP hS hF dX1_foundBelow_34
      · have hF := hF.2 c_2
        refine lv_lload_n hx hb dX1_foundBelow_18 rfl (lv_at hl 2 rfl) ?_
        refine lv_aload_n hx hb dX1_foundBelow_19 rfl (lv_at hl 0 rfl) ?_
        refine lv_iload hx hb dX1_foundBelow_20 (lv_at hl 3 rfl) ?_
        refine goL (rV (rest := [.long x2_5]) S hK hP (ctX1_found l D cI cJ ad had o ho x4_5 _ _ hF) (cwV 1 hts gX1_foundBelow_X1_found rfl rfl rfl hdV_X1_found ⟨Nat.le_of_ble_eq_true rfl, Nat.le_of_ble_eq_true rfl⟩) (e_L ho) rfl rfl hl.1 rfl (Nat.le_of_ble_eq_true rfl) dX1_foundBelow_22 ⟨Nat.zero_le _, Nat.zero_le _⟩) hS (fun _ h => h) (fun r_3 M_3 H locs hP hS hF => ?_)
        refine lv_ladd hx hb dX1_foundBelow_25 ?_
        refine lv_lstore_n (lv' := [(2, .long (x2_5 + r_3)), (0, .ref (ad (4+3*o))), (1, .int a1), (4, .int x4_5)]) hx hb dX1_foundBelow_26 rfl hl (by decide) rfl (fun ls hl => ?_)
        refine lv_iinc (v := (x4_5 + 1)) (lv' := [(4, .int (x4_5 + 1)), (2, .long (x2_5 + r_3)), (0, .ref (ad (4+3*o))), (1, .int a1)]) hx hb dX1_foundBelow_27 hl (k := 3) rfl rfl (by decide) rfl (fun ls hl => ?_)
        refine lv_goto (tgt := 5) hx hb dX1_foundBelow_30 (by decide) ?_
        exact hJ_5 _ _ _ hF _ _ _ hP hS (lv_sub hl [2, 3, 1, 0] rfl)
  exact key_5 _ _ _ hF _ _ _ hP hS (lv_sub hl [2, 3, 1, 0] rfl)
def bX1_lengthsByWeight_4 (o : Nat) (Q : Int64 → Mm → Prop) (J_4 : Int64 → Int32 → Mm → Prop) (x1_4 : Int64) (x3_4 : Int32) (m4 : Mm) : Prop := (((6 : Int32) ≤ x3_4 → (Q x1_4 m4)) ∧ (¬ (6 : Int32) ≤ x3_4 → (wX6_at_ (17+4*o) x3_4 (fun r_2 M_2 => (J_4 (x1_4 + ((x3_4.toInt64) * r_2)) (x3_4 + 1) M_2)) m4)))
def lX1_lengthsByWeight_4 (o : Nat) (Q : Int64 → Mm → Prop) (x1_4 : Int64) (x3_4 : Int32) (m4 : Mm) : Prop := ∀ I : Int64 → Int32 → Mm → Prop, (∀ J : Int64 → Int32 → Mm → Prop, (∀ (x1_4 : Int64) (x3_4 : Int32) (m : Mm), J x1_4 x3_4 m → I x1_4 x3_4 m) → ∀ (x1_4 : Int64) (x3_4 : Int32) (m : Mm), bX1_lengthsByWeight_4 o Q J x1_4 x3_4 m → I x1_4 x3_4 m) → I x1_4 x3_4 m4
theorem lX1_lengthsByWeight_4_mk (o : Nat) (Q : Int64 → Mm → Prop) (x1_4 : Int64) (x3_4 : Int32) (m4 : Mm) (h : bX1_lengthsByWeight_4 o Q (lX1_lengthsByWeight_4 o Q) x1_4 x3_4 m4) : lX1_lengthsByWeight_4 o Q x1_4 x3_4 m4 := fun I hI => hI (lX1_lengthsByWeight_4 o Q) (fun _ _ _ q => q I hI) _ _ _ h
def wX1_lengthsByWeight (o : Nat) (Q : Int64 → Mm → Prop) (M : Mm) : Prop := (lX1_lengthsByWeight_4 o Q (0 : Int64) (0 : Int32) M)
set_option maxHeartbeats 4000000 in
set_option maxRecDepth 100000 in
theorem ctX1_lengthsByWeight (l : Launch) (D : va_G) (cI cJ : ClassId) (ad : Nat → Nat) (had : inj54 ad) (o : Nat) (ho : o < 2) (Q : Int64 → Mm → Prop) (M : Mm) (hF : wX1_lengthsByWeight o Q M) : Met l yX1_lengthsByWeight wsX1_lengthsByWeight ({ frames := 1, cells := 0, slots := 0, locals := 21 } : Room) (PcW D cI cJ ad M [.ref (ad (4+3*o))]) (QlW D cI cJ ad Q) 0 0 (Fr ad) := by
  refine entW (y := yX1_lengthsByWeight) (ret := some .long) (maxL := 4) (plainFor_of_name (by decide)) rfl (Nat.le_of_ble_eq_true rfl) ?_
  intro p e s m args below meth c ls S hK hr hlocks hP hS hl
  have hx := S.1
  have hb := S.2.1
  have hown := S.2.2.2.1
  have hts := S.2.2.2.2
  have i1 : ∀ w ∈ wsX10, w ∈ wsX1_lengthsByWeight := by decide +kernel
  have k15 := hts (.fieldLink RX1 15 "RopeLine$Lengths" "weights" "[J") (by decide +kernel)
  have hl : lv_has ls 4 [(0, .ref (ad (4+3*o)))] := hl
  unfold wX1_lengthsByWeight at hF
  refine lv_lconst (v := 0) hx hb dX1_lengthsByWeight_0 (by decide) ?_
  refine lv_lstore_n (lv' := [(1, .long (0 : Int64)), (0, .ref (ad (4+3*o)))]) hx hb dX1_lengthsByWeight_1 rfl hl (by decide) rfl (fun ls hl => ?_)
  refine lv_iconst (v := 0) hx hb dX1_lengthsByWeight_2 (by decide) ?_
  refine lv_istore_n (lv' := [(3, .int (0 : Int32)), (1, .long (0 : Int64)), (0, .ref (ad (4+3*o)))]) hx hb dX1_lengthsByWeight_3 rfl hl (by decide) rfl (fun ls hl => ?_)
  have key_4 : ∀ (x1_4 : Int64) (x3_4 : Int32) (m4 : Mm), (lX1_lengthsByWeight_4 o Q x1_4 x3_4 m4) → Wc p l e ({ frames := 1, cells := 0, slots := 0, locals := 21 } : Room) s m args below meth c D cI cJ ad (MQ below (QlW D cI cJ ad Q) args s 0 0 (Fr ad)) 4 4 [(0, .ref (ad (4+3*o))), (1, .long x1_4), (3, .int x3_4)] m4 := by
    intro x1_4 x3_4 m4 hL
    refine hL (fun x1_4 x3_4 m4 => Wc p l e ({ frames := 1, cells := 0, slots := 0, locals := 21 } : Room) s m args below meth c D cI cJ ad (MQ below (QlW D cI cJ ad Q) args s 0 0 (Fr ad)) 4 4 [(0, .ref (ad (4+3*o))), (1, .long x1_4), (3, .int x3_4)] m4) ?_
    intro J_4 hJ_4 x1_4 x3_4 m4 hF H locs ls hP hS hl
    unfold bX1_lengthsByWeight_4 at hF
    refine lv_iload_n hx hb dX1_lengthsByWeight_4 rfl (lv_at hl 2 rfl) ?_
    refine lv_bipush (v := 6) hx hb dX1_lengthsByWeight_5 (by decide) ?_
    refine lv_icmp_ge (tgt := 30) hx hb dX1_lengthsByWeight_7 (by decide) (fun c_1 => ?_) (fun c_1 => ?_)
    · have hF := hF.1 c_1
      refine lv_lload_n hx hb dX1_lengthsByWeight_30 rfl (lv_at hl 1 rfl) ?_
      exact retL S hr hlocks hP hS hF dX1_lengthsByWeight_31
    · have hF := hF.2 c_1
      refine lv_lload_n hx hb dX1_lengthsByWeight_10 rfl (lv_at hl 1 rfl) ?_
      refine lv_iload_n hx hb dX1_lengthsByWeight_11 rfl (lv_at hl 2 rfl) ?_
      refine lv_i2l hx hb dX1_lengthsByWeight_12 rfl ?_
      refine lv_aload_n hx hb dX1_lengthsByWeight_13 rfl (lv_at hl 0 rfl) ?_
      refine gF S hK hP i1 (e_L ho) rfl 1 (by decide) k15 f_L_weights dX1_lengthsByWeight_14 ?_
      refine lv_iload_n hx hb dX1_lengthsByWeight_17 rfl (lv_at hl 2 rfl) ?_
      refine goL (rSN (rest := [.long (x3_4.toInt64), .long x1_4]) S hK hP (ctX6_at_ l D cI cJ ad had (17+4*o) (is_L_weights ho) x3_4 _ _ hF) ⟨va_cnB 2 hts ggX1_lengthsByWeight_X6_at_ rfl rfl rfl (hK.2 _ nw_RX1_58) (hts (.initialized RX6) (by decide +kernel)) hdS_X6_at_ ⟨Nat.le_of_ble_eq_true rfl, Nat.le_of_ble_eq_true rfl⟩, hts (.static yX6_at_) (by decide +kernel), trivial⟩ rfl hl.1 rfl (Nat.le_of_ble_eq_true rfl) dX1_lengthsByWeight_18 ⟨Nat.zero_le _, Nat.zero_le _⟩) hS (fun _ h => h) (fun r_2 M_2 H locs hP hS hF => ?_)
      refine lv_lmul hx hb dX1_lengthsByWeight_21 ?_
      refine lv_ladd hx hb dX1_lengthsByWeight_22 ?_
      refine lv_lstore_n (lv' := [(1, .long (x1_4 + ((x3_4.toInt64) * r_2))), (0, .ref (ad (4+3*o))), (3, .int x3_4)]) hx hb dX1_lengthsByWeight_23 rfl hl (by decide) rfl (fun ls hl => ?_)
      refine lv_iinc (v := (x3_4 + 1)) (lv' := [(3, .int (x3_4 + 1)), (1, .long (x1_4 + ((x3_4.toInt64) * r_2))), (0, .ref (ad (4+3*o)))]) hx hb dX1_lengthsByWeight_24 hl (k := 2) rfl rfl (by decide) rfl (fun ls hl => ?_)
      refine lv_goto (tgt := 4) hx hb dX1_lengthsByWeight_27 (by decide) ?_
      exact hJ_4 _ _ _ hF _ _ _ hP hS (lv_sub hl [2, 1, 0] rfl)
  exact key_4 _ _ _ hF _ _ _ hP hS (lv_sub hl [2, 1, 0] rfl)
def bX0_reckon_14 (k2_ : Nat) (Q : Mm → Prop) (J_14 : Int64 → Int32 → Mm → Prop) (x3_14 : Int64) (x5_14 : Int32) (m14 : Mm) : Prop := (((gi m14 14) ≤ x5_14 → (wX1_lengthsByWeight 1 (fun r_3 M_3 => (∀ M_4 : Mm, M_4 = (sj M_3 2 (x3_14 - ((((144 : Int32) * (gi m14 13)).toInt64) * r_3))) → (∀ M_5 : Mm, M_5 = (sj M_4 3 ((144 : Int64) * (gj M_4 1))) → (Q M_5)))) m14)) ∧ (¬ (gi m14 14) ≤ x5_14 → (wX6_at 13 x5_14 (fun r_6 M_6 => (wX6_at 14 x5_14 (fun r_7 M_7 => (wX6_at k2_ x5_14 (fun r_8 M_8 => (wX1_foundBelow 1 r_8 (fun r_9 M_9 => (J_14 (x3_14 + (((r_6 * r_7).toInt64) * r_9)) (x5_14 + 1) M_9)) M_8)) M_7)) M_6)) m14)))
def lX0_reckon_14 (k2_ : Nat) (Q : Mm → Prop) (x3_14 : Int64) (x5_14 : Int32) (m14 : Mm) : Prop := ∀ I : Int64 → Int32 → Mm → Prop, (∀ J : Int64 → Int32 → Mm → Prop, (∀ (x3_14 : Int64) (x5_14 : Int32) (m : Mm), J x3_14 x5_14 m → I x3_14 x5_14 m) → ∀ (x3_14 : Int64) (x5_14 : Int32) (m : Mm), bX0_reckon_14 k2_ Q J x3_14 x5_14 m → I x3_14 x5_14 m) → I x3_14 x5_14 m14
theorem lX0_reckon_14_mk (k2_ : Nat) (Q : Mm → Prop) (x3_14 : Int64) (x5_14 : Int32) (m14 : Mm) (h : bX0_reckon_14 k2_ Q (lX0_reckon_14 k2_ Q) x3_14 x5_14 m14) : lX0_reckon_14 k2_ Q x3_14 x5_14 m14 := fun I hI => hI (lX0_reckon_14 k2_ Q) (fun _ _ _ q => q I hI) _ _ _ h
def wX0_reckon (k2_ : Nat) (Q : Mm → Prop) (M : Mm) : Prop := (wX1_comeByBars 1 k2_ (fun M_1 => (lX0_reckon_14 k2_ Q (0 : Int64) (0 : Int32) M_1)) M)
set_option maxHeartbeats 4000000 in
set_option maxRecDepth 100000 in
theorem ctX0_reckon (l : Launch) (D : va_G) (cI cJ : ClassId) (ad : Nat → Nat) (had : inj54 ad) (k2_ : Nat) (hk2_ : isA k2_ = true) (Q : Mm → Prop) (M : Mm) (hF : wX0_reckon k2_ Q M) : Met l yX0_reckon wsX0_reckon ({ frames := 4, cells := 0, slots := 0, locals := 87 } : Room) (PcW D cI cJ ad M [.ref (ad 5), .ref (ad 3), .ref (ad k2_)]) (QvW D cI cJ ad Q) 0 0 (Fr ad) := by
  refine entW (y := yX0_reckon) (ret := none) (maxL := 6) (plainFor_of_name (by decide)) rfl (Nat.le_of_ble_eq_true rfl) ?_
  intro p e s m args below meth c ls S hK hr hlocks hP hS hl
  have hx := S.1
  have hb := S.2.1
  have hown := S.2.2.2.1
  have hts := S.2.2.2.2
  have i0 : ∀ w ∈ wsX00, w ∈ wsX0_reckon := by decide +kernel
  have i2 : ∀ w ∈ wsX20, w ∈ wsX0_reckon := by decide +kernel
  have i1 : ∀ w ∈ wsX10, w ∈ wsX0_reckon := by decide +kernel
  have k12 := hts (.fieldLink RX0 12 "RopeLine$Gains" "lengths" "LRopeLine$Lengths;") (by decide +kernel)
  have k60 := hts (.fieldLink RX0 60 "RopeLine$Gains" "upper" "J") (by decide +kernel)
  have k69 := hts (.fieldLink RX0 69 "RopeLine$Gains" "lower" "J") (by decide +kernel)
  have hl : lv_has ls 6 [(0, .ref (ad 5)), (1, .ref (ad 3)), (2, .ref (ad k2_))] := hl
  unfold wX0_reckon at hF
  refine lv_aload_n hx hb dX0_reckon_0 rfl (lv_at hl 0 rfl) ?_
  refine gF S hK hP i0 e_G rfl 0 (by decide) k12 f_G_lengths dX0_reckon_1 ?_
  refine lv_aload_n hx hb dX0_reckon_4 rfl (lv_at hl 1 rfl) ?_
  refine lv_aload_n hx hb dX0_reckon_5 rfl (lv_at hl 2 rfl) ?_
  refine goV (rV (rest := []) S hK hP (ctX1_comeByBars l D cI cJ ad had 1 (by decide) k2_ hk2_ _ _ hF) (cwV 2 hts gX0_reckon_X1_comeByBars rfl rfl rfl hdV_X1_comeByBars ⟨Nat.le_of_ble_eq_true rfl, Nat.le_of_ble_eq_true rfl⟩) (e_L (o := 1) (by decide)) rfl rfl hl.1 rfl (Nat.le_of_ble_eq_true rfl) dX0_reckon_6 ⟨Nat.zero_le _, Nat.zero_le _⟩) hS (fun _ h => h) (fun M_1 H locs hP hS hF => ?_)
  refine lv_lconst (v := 0) hx hb dX0_reckon_9 (by decide) ?_
  refine lv_lstore_n (lv' := [(3, .long (0 : Int64)), (0, .ref (ad 5)), (1, .ref (ad 3)), (2, .ref (ad k2_))]) hx hb dX0_reckon_10 rfl hl (by decide) rfl (fun ls hl => ?_)
  refine lv_iconst (v := 0) hx hb dX0_reckon_11 (by decide) ?_
  refine lv_istore (lv' := [(5, .int (0 : Int32)), (3, .long (0 : Int64)), (0, .ref (ad 5)), (1, .ref (ad 3)), (2, .ref (ad k2_))]) hx hb dX0_reckon_12 hl (by decide) rfl (fun ls hl => ?_)
  have key_14 : ∀ (x3_14 : Int64) (x5_14 : Int32) (m14 : Mm), (lX0_reckon_14 k2_ Q x3_14 x5_14 m14) → Wc p l e ({ frames := 4, cells := 0, slots := 0, locals := 87 } : Room) s m args below meth c D cI cJ ad (MQ below (QvW D cI cJ ad Q) args s 0 0 (Fr ad)) 6 14 [(0, .ref (ad 5)), (1, .ref (ad 3)), (2, .ref (ad k2_)), (3, .long x3_14), (5, .int x5_14)] m14 := by
    intro x3_14 x5_14 m14 hL
    refine hL (fun x3_14 x5_14 m14 => Wc p l e ({ frames := 4, cells := 0, slots := 0, locals := 87 } : Room) s m args below meth c D cI cJ ad (MQ below (QvW D cI cJ ad Q) args s 0 0 (Fr ad)) 6 14 [(0, .ref (ad 5)), (1, .ref (ad 3)), (2, .ref (ad k2_)), (3, .long x3_14), (5, .int x5_14)] m14) ?_
    intro J_14 hJ_14 x3_14 x5_14 m14 hF H locs ls hP hS hl
    unfold bX0_reckon_14 at hF
    refine lv_iload hx hb dX0_reckon_14 (lv_at hl 4 rfl) ?_
    refine lv_aload_n hx hb dX0_reckon_16 rfl (lv_at hl 1 rfl) ?_
    refine gN S hK hP i2 e_P rfl 6 (by decide) nw_RX0_33 f_P_sorts dX0_reckon_17 ?_
    refine lv_icmp_ge (tgt := 66) hx hb dX0_reckon_20 (by decide) (fun c_2 => ?_) (fun c_2 => ?_)
    · have hF := hF.1 c_2
      refine lv_aload_n hx hb dX0_reckon_66 rfl (lv_at hl 0 rfl) ?_
      refine lv_lload_n hx hb dX0_reckon_67 rfl (lv_at hl 3 rfl) ?_
      refine lv_sipush (v := 144) hx hb dX0_reckon_68 (by decide) ?_
      refine lv_aload_n hx hb dX0_reckon_71 rfl (lv_at hl 1 rfl) ?_
      refine gN S hK hP i2 e_P rfl 5 (by decide) nw_RX0_53 f_P_cost dX0_reckon_72 ?_
      refine lv_imul hx hb dX0_reckon_75 ?_
      refine lv_i2l hx hb dX0_reckon_76 rfl ?_
      refine lv_aload_n hx hb dX0_reckon_77 rfl (lv_at hl 0 rfl) ?_
      refine gF S hK hP i0 e_G rfl 0 (by decide) k12 f_G_lengths dX0_reckon_78 ?_
      refine goL (rV (rest := [.long (((144 : Int32) * (gi m14 13)).toInt64), .long x3_14, .ref (ad 5)]) S hK hP (ctX1_lengthsByWeight l D cI cJ ad had 1 (by decide) _ _ hF) (cwV 0 hts gX0_reckon_X1_lengthsByWeight rfl rfl rfl hdV_X1_lengthsByWeight ⟨Nat.le_of_ble_eq_true rfl, Nat.le_of_ble_eq_true rfl⟩) (e_L (o := 1) (by decide)) rfl rfl hl.1 rfl (Nat.le_of_ble_eq_true rfl) dX0_reckon_81 ⟨Nat.zero_le _, Nat.zero_le _⟩) hS (fun _ h => h) (fun r_3 M_3 H locs hP hS hF => ?_)
      refine lv_lmul hx hb dX0_reckon_84 ?_
      refine lv_lsub hx hb dX0_reckon_85 ?_
      refine pF S hK had hP hS i0 tyX0_ok nmX0 e_G rfl 4 (by decide) k60 rfl rfl rfl (Nat.lt_of_lt_of_eq (by decide) len_G.symm) s_G_upper dX0_reckon_86 (fun M_4 H locs eM_4 hP hS => ?_)
      have hF := hF M_4 eM_4
      refine lv_aload_n hx hb dX0_reckon_89 rfl (lv_at hl 0 rfl) ?_
      refine lv_ldc2 (v := 144) hx hb hown (hts (.constantLong RX0 64 (144)) (by decide +kernel)) dX0_reckon_90 ?_
      refine lv_aload_n hx hb dX0_reckon_93 rfl (lv_at hl 0 rfl) ?_
      refine gF S hK hP i0 e_G rfl 0 (by decide) k12 f_G_lengths dX0_reckon_94 ?_
      refine gN S hK hP i1 (e_L (o := 1) (by decide)) rfl 6 (by decide) nw_RX0_66 f_L_total dX0_reckon_97 ?_
      refine lv_lmul hx hb dX0_reckon_100 ?_
      refine pF S hK had hP hS i0 tyX0_ok nmX0 e_G rfl 5 (by decide) k69 rfl rfl rfl (Nat.lt_of_lt_of_eq (by decide) len_G.symm) s_G_lower dX0_reckon_101 (fun M_5 H locs eM_5 hP hS => ?_)
      have hF := hF M_5 eM_5
      exact retV S hr hlocks hP hS hF dX0_reckon_104
    · have hF := hF.2 c_2
      refine lv_lload_n hx hb dX0_reckon_23 rfl (lv_at hl 3 rfl) ?_
      refine lv_aload_n hx hb dX0_reckon_24 rfl (lv_at hl 1 rfl) ?_
      refine gN S hK hP i2 e_P rfl 0 (by decide) nw_RX0_39 f_P_twelfths dX0_reckon_25 ?_
      refine lv_iload hx hb dX0_reckon_28 (lv_at hl 4 rfl) ?_
      refine goI (rSN (rest := [.long x3_14]) S hK hP (ctX6_at l D cI cJ ad had 13 rfl x5_14 _ _ hF) ⟨va_cnB 2 hts ggX0_reckon_X6_at rfl rfl rfl (hK.2 _ nw_RX0_42) (hts (.initialized RX6) (by decide +kernel)) hdS_X6_at ⟨Nat.le_of_ble_eq_true rfl, Nat.le_of_ble_eq_true rfl⟩, hts (.static yX6_at) (by decide +kernel), trivial⟩ rfl hl.1 rfl (Nat.le_of_ble_eq_true rfl) dX0_reckon_30 ⟨Nat.zero_le _, Nat.zero_le _⟩) hS (fun _ h => h) (fun r_6 M_6 H locs hP hS hF => ?_)
      refine lv_aload_n hx hb dX0_reckon_33 rfl (lv_at hl 1 rfl) ?_
      refine gN S hK hP i2 e_P rfl 1 (by decide) nw_RX0_46 f_P_worths dX0_reckon_34 ?_
      refine lv_iload hx hb dX0_reckon_37 (lv_at hl 4 rfl) ?_
      refine goI (rSN (rest := [.int r_6, .long x3_14]) S hK hP (ctX6_at l D cI cJ ad had 14 rfl x5_14 _ _ hF) ⟨va_cnB 2 hts ggX0_reckon_X6_at rfl rfl rfl (hK.2 _ nw_RX0_42) (hts (.initialized RX6) (by decide +kernel)) hdS_X6_at ⟨Nat.le_of_ble_eq_true rfl, Nat.le_of_ble_eq_true rfl⟩, hts (.static yX6_at) (by decide +kernel), trivial⟩ rfl hl.1 rfl (Nat.le_of_ble_eq_true rfl) dX0_reckon_39 ⟨Nat.zero_le _, Nat.zero_le _⟩) hS (fun _ h => h) (fun r_7 M_7 H locs hP hS hF => ?_)
      refine lv_imul hx hb dX0_reckon_42 ?_
      refine lv_i2l hx hb dX0_reckon_43 rfl ?_
      refine lv_aload_n hx hb dX0_reckon_44 rfl (lv_at hl 0 rfl) ?_
      refine gF S hK hP i0 e_G rfl 0 (by decide) k12 f_G_lengths dX0_reckon_45 ?_
      refine lv_aload_n hx hb dX0_reckon_48 rfl (lv_at hl 2 rfl) ?_
      refine lv_iload hx hb dX0_reckon_49 (lv_at hl 4 rfl) ?_
      refine goI (rSN (rest := [.ref (ad 7), .long ((r_6 * r_7).toInt64), .long x3_14]) S hK hP (ctX6_at l D cI cJ ad had k2_ hk2_ x5_14 _ _ hF) ⟨va_cnB 2 hts ggX0_reckon_X6_at rfl rfl rfl (hK.2 _ nw_RX0_42) (hts (.initialized RX6) (by decide +kernel)) hdS_X6_at ⟨Nat.le_of_ble_eq_true rfl, Nat.le_of_ble_eq_true rfl⟩, hts (.static yX6_at) (by decide +kernel), trivial⟩ rfl hl.1 rfl (Nat.le_of_ble_eq_true rfl) dX0_reckon_51 ⟨Nat.zero_le _, Nat.zero_le _⟩) hS (fun _ h => h) (fun r_8 M_8 H locs hP hS hF => ?_)
      refine goL (rV (rest := [.long ((r_6 * r_7).toInt64), .long x3_14]) S hK hP (ctX1_foundBelow l D cI cJ ad had 1 (by decide) r_8 _ _ hF) (cwV 1 hts gX0_reckon_X1_foundBelow rfl rfl rfl hdV_X1_foundBelow ⟨Nat.le_of_ble_eq_true rfl, Nat.le_of_ble_eq_true rfl⟩) (e_L (o := 1) (by decide)) rfl rfl hl.1 rfl (Nat.le_of_ble_eq_true rfl) dX0_reckon_54 ⟨Nat.zero_le _, Nat.zero_le _⟩) hS (fun _ h => h) (fun r_9 M_9 H locs hP hS hF => ?_)
      refine lv_lmul hx hb dX0_reckon_57 ?_
      refine lv_ladd hx hb dX0_reckon_58 ?_
      refine lv_lstore_n (lv' := [(3, .long (x3_14 + (((r_6 * r_7).toInt64) * r_9))), (0, .ref (ad 5)), (1, .ref (ad 3)), (2, .ref (ad k2_)), (5, .int x5_14)]) hx hb dX0_reckon_59 rfl hl (by decide) rfl (fun ls hl => ?_)
      refine lv_iinc (v := (x5_14 + 1)) (lv' := [(5, .int (x5_14 + 1)), (3, .long (x3_14 + (((r_6 * r_7).toInt64) * r_9))), (0, .ref (ad 5)), (1, .ref (ad 3)), (2, .ref (ad k2_))]) hx hb dX0_reckon_60 hl (k := 4) rfl rfl (by decide) rfl (fun ls hl => ?_)
      refine lv_goto (tgt := 14) hx hb dX0_reckon_63 (by decide) ?_
      exact hJ_14 _ _ _ hF _ _ _ hP hS (lv_sub hl [2, 3, 4, 1, 0] rfl)
  exact key_14 _ _ _ hF _ _ _ hP hS (lv_sub hl [2, 3, 4, 1, 0] rfl)
def bX0_knowBest_84 (r_2 : Int32) (x7_25 : Int32) (y2_84 : Int64) (y4_84 : Int64) (Q : Mm → Prop) (J_25 : Int64 → Int64 → Int32 → Mm → Prop) (J_84 : Int32 → Mm → Prop) (x8_84 : Int32) (m84 : Mm) : Prop := (((gi m84 14) ≤ x8_84 → (J_25 y2_84 y4_84 (x7_25 + 1) m84)) ∧ (¬ (gi m84 14) ≤ x8_84 → (wX6_at 24 x8_84 (fun r_9 M_9 => (wX6_set 25 x8_84 r_9 (fun M_10 => (J_84 (x8_84 + 1) M_10)) M_9)) m84)))
def lX0_knowBest_84 (r_2 : Int32) (x7_25 : Int32) (y2_84 : Int64) (y4_84 : Int64) (Q : Mm → Prop) (J_25 : Int64 → Int64 → Int32 → Mm → Prop) (x8_84 : Int32) (m84 : Mm) : Prop := ∀ I : Int32 → Mm → Prop, (∀ J : Int32 → Mm → Prop, (∀ (x8_84 : Int32) (m : Mm), J x8_84 m → I x8_84 m) → ∀ (x8_84 : Int32) (m : Mm), bX0_knowBest_84 r_2 x7_25 y2_84 y4_84 Q J_25 J x8_84 m → I x8_84 m) → I x8_84 m84
theorem lX0_knowBest_84_mk (r_2 : Int32) (x7_25 : Int32) (y2_84 : Int64) (y4_84 : Int64) (Q : Mm → Prop) (J_25 : Int64 → Int64 → Int32 → Mm → Prop) (x8_84 : Int32) (m84 : Mm) (h : bX0_knowBest_84 r_2 x7_25 y2_84 y4_84 Q J_25 (lX0_knowBest_84 r_2 x7_25 y2_84 y4_84 Q J_25) x8_84 m84) : lX0_knowBest_84 r_2 x7_25 y2_84 y4_84 Q J_25 x8_84 m84 := fun I hI => hI (lX0_knowBest_84 r_2 x7_25 y2_84 y4_84 Q J_25) (fun _ _ q => q I hI) _ _ h
def bX0_knowBest_25 (r_2 : Int32) (Q : Mm → Prop) (J_25 : Int64 → Int64 → Int32 → Mm → Prop) (x2_25 : Int64) (x4_25 : Int64) (x7_25 : Int32) (m25 : Mm) : Prop := ((r_2 ≤ x7_25 → (∀ M_4 : Mm, M_4 = (si m25 22 (1 : Int32)) → (Q M_4))) ∧ (¬ r_2 ≤ x7_25 → (wX0_rowBecomes x7_25 (fun M_5 => (wX0_reckon 24 (fun M_6 => ((x7_25 = 0 → (lX0_knowBest_84 r_2 x7_25 (gj M_6 2) (gj M_6 3) Q J_25 (0 : Int32) M_6)) ∧ (¬ x7_25 = 0 → (wX6_compareShares (gj M_6 2) (gj M_6 3) x2_25 x4_25 (fun r_11 M_11 => ((r_11 ≤ 0 → (J_25 x2_25 x4_25 (x7_25 + 1) M_11)) ∧ (¬ r_11 ≤ 0 → (lX0_knowBest_84 r_2 x7_25 (gj M_11 2) (gj M_11 3) Q J_25 (0 : Int32) M_11)))) M_6)))) M_5)) m25)))
def lX0_knowBest_25 (r_2 : Int32) (Q : Mm → Prop) (x2_25 : Int64) (x4_25 : Int64) (x7_25 : Int32) (m25 : Mm) : Prop := ∀ I : Int64 → Int64 → Int32 → Mm → Prop, (∀ J : Int64 → Int64 → Int32 → Mm → Prop, (∀ (x2_25 : Int64) (x4_25 : Int64) (x7_25 : Int32) (m : Mm), J x2_25 x4_25 x7_25 m → I x2_25 x4_25 x7_25 m) → ∀ (x2_25 : Int64) (x4_25 : Int64) (x7_25 : Int32) (m : Mm), bX0_knowBest_25 r_2 Q J x2_25 x4_25 x7_25 m → I x2_25 x4_25 x7_25 m) → I x2_25 x4_25 x7_25 m25
theorem lX0_knowBest_25_mk (r_2 : Int32) (Q : Mm → Prop) (x2_25 : Int64) (x4_25 : Int64) (x7_25 : Int32) (m25 : Mm) (h : bX0_knowBest_25 r_2 Q (lX0_knowBest_25 r_2 Q) x2_25 x4_25 x7_25 m25) : lX0_knowBest_25 r_2 Q x2_25 x4_25 x7_25 m25 := fun I hI => hI (lX0_knowBest_25 r_2 Q) (fun _ _ _ _ q => q I hI) _ _ _ _ h
def wX0_knowBest (Q : Mm → Prop) (M : Mm) : Prop := (((gi M 22) = 0 → (wX6_rowsOf (gi M 14) (fun r_2 M_2 => (lX0_knowBest_25 r_2 Q (0 : Int64) (0 : Int64) (0 : Int32) M_2)) M)) ∧ (¬ (gi M 22) = 0 → (Q M)))
set_option maxHeartbeats 4000000 in
set_option maxRecDepth 100000 in
theorem ctX0_knowBest (l : Launch) (D : va_G) (cI cJ : ClassId) (ad : Nat → Nat) (had : inj54 ad)  (Q : Mm → Prop) (M : Mm) (hF : wX0_knowBest Q M) : Met l yX0_knowBest wsX0_knowBest ({ frames := 5, cells := 0, slots := 0, locals := 112 } : Room) (PcW D cI cJ ad M [.ref (ad 5), .ref (ad 3)]) (QvW D cI cJ ad Q) 0 0 (Fr ad) := by
  refine entW (y := yX0_knowBest) (ret := none) (maxL := 9) (plainFor_of_name (by decide)) rfl (Nat.le_of_ble_eq_true rfl) ?_
  intro p e s m args below meth c ls S hK hr hlocks hP hS hl
  have hx := S.1
  have hb := S.2.1
  have hown := S.2.2.2.1
  have hts := S.2.2.2.2
  have i0 : ∀ w ∈ wsX00, w ∈ wsX0_knowBest := by decide +kernel
  have i2 : ∀ w ∈ wsX20, w ∈ wsX0_knowBest := by decide +kernel
  have k25 := hts (.fieldLink RX0 25 "RopeLine$Gains" "knowsBest" "Z") (by decide +kernel)
  have k18 := hts (.fieldLink RX0 18 "RopeLine$Gains" "row" "[I") (by decide +kernel)
  have k60 := hts (.fieldLink RX0 60 "RopeLine$Gains" "upper" "J") (by decide +kernel)
  have k69 := hts (.fieldLink RX0 69 "RopeLine$Gains" "lower" "J") (by decide +kernel)
  have k22 := hts (.fieldLink RX0 22 "RopeLine$Gains" "bestRow" "[I") (by decide +kernel)
  have hl : lv_has ls 9 [(0, .ref (ad 5)), (1, .ref (ad 3))] := hl
  unfold wX0_knowBest at hF
  refine lv_aload_n hx hb dX0_knowBest_0 rfl (lv_at hl 0 rfl) ?_
  refine gF S hK hP i0 e_G rfl 3 (by decide) k25 f_G_knowsBest dX0_knowBest_1 ?_
  refine lv_if_eq (tgt := 8) hx hb dX0_knowBest_4 (by decide) (fun c_1 => ?_) (fun c_1 => ?_)
  · have hF := hF.1 c_1
    refine lv_lconst (v := 0) hx hb dX0_knowBest_8 (by decide) ?_
    refine lv_lstore_n (lv' := [(2, .long (0 : Int64)), (0, .ref (ad 5)), (1, .ref (ad 3))]) hx hb dX0_knowBest_9 rfl hl (by decide) rfl (fun ls hl => ?_)
    refine lv_lconst (v := 0) hx hb dX0_knowBest_10 (by decide) ?_
    refine lv_lstore (lv' := [(4, .long (0 : Int64)), (2, .long (0 : Int64)), (0, .ref (ad 5)), (1, .ref (ad 3))]) hx hb dX0_knowBest_11 hl (by decide) rfl (fun ls hl => ?_)
    refine lv_aload_n hx hb dX0_knowBest_13 rfl (lv_at hl 3 rfl) ?_
    refine gN S hK hP i2 e_P rfl 6 (by decide) nw_RX0_33 f_P_sorts dX0_knowBest_14 ?_
    refine goI (rSN (rest := []) S hK hP (ctX6_rowsOf l D cI cJ ad had (gi M 14) _ _ hF) ⟨va_cnB 1 hts ggX0_knowBest_X6_rowsOf rfl rfl rfl (hK.2 _ nw_RX0_76) (hts (.initialized RX6) (by decide +kernel)) hdS_X6_rowsOf ⟨Nat.le_of_ble_eq_true rfl, Nat.le_of_ble_eq_true rfl⟩, hts (.static yX6_rowsOf) (by decide +kernel), trivial⟩ rfl hl.1 rfl (Nat.le_of_ble_eq_true rfl) dX0_knowBest_17 ⟨Nat.zero_le _, Nat.zero_le _⟩) hS (fun _ h => h) (fun r_2 M_2 H locs hP hS hF => ?_)
    refine lv_istore (lv' := [(6, .int r_2), (4, .long (0 : Int64)), (2, .long (0 : Int64)), (0, .ref (ad 5)), (1, .ref (ad 3))]) hx hb dX0_knowBest_20 hl (by decide) rfl (fun ls hl => ?_)
    refine lv_iconst (v := 0) hx hb dX0_knowBest_22 (by decide) ?_
    refine lv_istore (lv' := [(7, .int (0 : Int32)), (6, .int r_2), (4, .long (0 : Int64)), (2, .long (0 : Int64)), (0, .ref (ad 5)), (1, .ref (ad 3))]) hx hb dX0_knowBest_23 hl (by decide) rfl (fun ls hl => ?_)
    have key_25 : ∀ (x2_25 : Int64) (x4_25 : Int64) (x7_25 : Int32) (m25 : Mm), (lX0_knowBest_25 r_2 Q x2_25 x4_25 x7_25 m25) → Wc p l e ({ frames := 5, cells := 0, slots := 0, locals := 112 } : Room) s m args below meth c D cI cJ ad (MQ below (QvW D cI cJ ad Q) args s 0 0 (Fr ad)) 9 25 [(0, .ref (ad 5)), (1, .ref (ad 3)), (2, .long x2_25), (4, .long x4_25), (6, .int r_2), (7, .int x7_25)] m25 := by
      intro x2_25 x4_25 x7_25 m25 hL
      refine hL (fun x2_25 x4_25 x7_25 m25 => Wc p l e ({ frames := 5, cells := 0, slots := 0, locals := 112 } : Room) s m args below meth c D cI cJ ad (MQ below (QvW D cI cJ ad Q) args s 0 0 (Fr ad)) 9 25 [(0, .ref (ad 5)), (1, .ref (ad 3)), (2, .long x2_25), (4, .long x4_25), (6, .int r_2), (7, .int x7_25)] m25) ?_
      intro J_25 hJ_25 x2_25 x4_25 x7_25 m25 hF H locs ls hP hS hl
      unfold bX0_knowBest_25 at hF
      refine lv_iload hx hb dX0_knowBest_25 (lv_at hl 5 rfl) ?_
      refine lv_iload hx hb dX0_knowBest_27 (lv_at hl 4 rfl) ?_
      refine lv_icmp_ge (tgt := 123) hx hb dX0_knowBest_29 (by decide) (fun c_3 => ?_) (fun c_3 => ?_)
      · have hF := hF.1 c_3
        refine lv_aload_n hx hb dX0_knowBest_123 rfl (lv_at hl 0 rfl) ?_
        refine lv_iconst (v := 1) hx hb dX0_knowBest_124 (by decide) ?_
        refine pF S hK had hP hS i0 tyX0_ok nmX0 e_G rfl 3 (by decide) k25 rfl rfl rfl (Nat.lt_of_lt_of_eq (by decide) len_G.symm) s_G_knowsBest dX0_knowBest_125 (fun M_4 H locs eM_4 hP hS => ?_)
        have hF := hF M_4 eM_4
        exact retV S hr hlocks hP hS hF dX0_knowBest_128
      · have hF := hF.2 c_3
        refine lv_aload_n hx hb dX0_knowBest_32 rfl (lv_at hl 0 rfl) ?_
        refine lv_aload_n hx hb dX0_knowBest_33 rfl (lv_at hl 1 rfl) ?_
        refine lv_iload hx hb dX0_knowBest_34 (lv_at hl 5 rfl) ?_
        refine goV (rV (rest := []) S hK hP (ctX0_rowBecomes l D cI cJ ad had x7_25 _ _ hF) (cwV 2 hts gX0_knowBest_X0_rowBecomes rfl rfl rfl hdV_X0_rowBecomes ⟨Nat.le_of_ble_eq_true rfl, Nat.le_of_ble_eq_true rfl⟩) e_G rfl rfl hl.1 rfl (Nat.le_of_ble_eq_true rfl) dX0_knowBest_36 ⟨Nat.zero_le _, Nat.zero_le _⟩) hS (fun _ h => h) (fun M_5 H locs hP hS hF => ?_)
        refine lv_aload_n hx hb dX0_knowBest_39 rfl (lv_at hl 0 rfl) ?_
        refine lv_aload_n hx hb dX0_knowBest_40 rfl (lv_at hl 1 rfl) ?_
        refine lv_aload_n hx hb dX0_knowBest_41 rfl (lv_at hl 0 rfl) ?_
        refine gF S hK hP i0 e_G rfl 1 (by decide) k18 f_G_row dX0_knowBest_42 ?_
        refine goV (rV (rest := []) S hK hP (ctX0_reckon l D cI cJ ad had 24 rfl _ _ hF) (cwV 2 hts gX0_knowBest_X0_reckon rfl rfl rfl hdV_X0_reckon ⟨Nat.le_of_ble_eq_true rfl, Nat.le_of_ble_eq_true rfl⟩) e_G rfl rfl hl.1 rfl (Nat.le_of_ble_eq_true rfl) dX0_knowBest_45 ⟨Nat.zero_le _, Nat.zero_le _⟩) hS (fun _ h => h) (fun M_6 H locs hP hS hF => ?_)
        refine lv_iload hx hb dX0_knowBest_48 (lv_at hl 5 rfl) ?_
        refine lv_if_eq (tgt := 70) hx hb dX0_knowBest_50 (by decide) (fun c_7 => ?_) (fun c_7 => ?_)
        · have hF := hF.1 c_7
          refine lv_aload_n hx hb dX0_knowBest_70 rfl (lv_at hl 0 rfl) ?_
          refine gF S hK hP i0 e_G rfl 4 (by decide) k60 f_G_upper dX0_knowBest_71 ?_
          refine lv_lstore_n (lv' := [(2, .long (gj M_6 2)), (0, .ref (ad 5)), (1, .ref (ad 3)), (4, .long x4_25), (6, .int r_2), (7, .int x7_25)]) hx hb dX0_knowBest_74 rfl hl (by decide) rfl (fun ls hl => ?_)
          refine lv_aload_n hx hb dX0_knowBest_75 rfl (lv_at hl 1 rfl) ?_
          refine gF S hK hP i0 e_G rfl 5 (by decide) k69 f_G_lower dX0_knowBest_76 ?_
          refine lv_lstore (lv' := [(4, .long (gj M_6 3)), (2, .long (gj M_6 2)), (0, .ref (ad 5)), (1, .ref (ad 3)), (6, .int r_2), (7, .int x7_25)]) hx hb dX0_knowBest_79 hl (by decide) rfl (fun ls hl => ?_)
          refine lv_iconst (v := 0) hx hb dX0_knowBest_81 (by decide) ?_
          refine lv_istore (lv' := [(8, .int (0 : Int32)), (4, .long (gj M_6 3)), (2, .long (gj M_6 2)), (0, .ref (ad 5)), (1, .ref (ad 3)), (6, .int r_2), (7, .int x7_25)]) hx hb dX0_knowBest_82 hl (by decide) rfl (fun ls hl => ?_)
          have key_84 : ∀ (y2_84 : Int64) (y4_84 : Int64) (x8_84 : Int32) (m84 : Mm), (lX0_knowBest_84 r_2 x7_25 y2_84 y4_84 Q J_25 x8_84 m84) → Wc p l e ({ frames := 5, cells := 0, slots := 0, locals := 112 } : Room) s m args below meth c D cI cJ ad (MQ below (QvW D cI cJ ad Q) args s 0 0 (Fr ad)) 9 84 [(0, .ref (ad 5)), (1, .ref (ad 3)), (2, .long y2_84), (4, .long y4_84), (6, .int r_2), (7, .int x7_25), (8, .int x8_84)] m84 := by
            intro y2_84 y4_84 x8_84 m84 hL
            refine hL (fun x8_84 m84 => Wc p l e ({ frames := 5, cells := 0, slots := 0, locals := 112 } : Room) s m args below meth c D cI cJ ad (MQ below (QvW D cI cJ ad Q) args s 0 0 (Fr ad)) 9 84 [(0, .ref (ad 5)), (1, .ref (ad 3)), (2, .long y2_84), (4, .long y4_84), (6, .int r_2), (7, .int x7_25), (8, .int x8_84)] m84) ?_
            intro J_84 hJ_84 x8_84 m84 hF H locs ls hP hS hl
            unfold bX0_knowBest_84 at hF
            refine lv_iload hx hb dX0_knowBest_84 (lv_at hl 6 rfl) ?_
            refine lv_aload_n hx hb dX0_knowBest_86 rfl (lv_at hl 1 rfl) ?_
            refine gN S hK hP i2 e_P rfl 6 (by decide) nw_RX0_33 f_P_sorts dX0_knowBest_87 ?_
            refine lv_icmp_ge (tgt := 117) hx hb dX0_knowBest_90 (by decide) (fun c_8 => ?_) (fun c_8 => ?_)
            · have hF := hF.1 c_8
              refine lv_iinc (v := (x7_25 + 1)) (lv' := [(7, .int (x7_25 + 1)), (0, .ref (ad 5)), (1, .ref (ad 3)), (2, .long y2_84), (4, .long y4_84), (6, .int r_2), (8, .int x8_84)]) hx hb dX0_knowBest_117 hl (k := 5) rfl rfl (by decide) rfl (fun ls hl => ?_)
              refine lv_goto (tgt := 25) hx hb dX0_knowBest_120 (by decide) ?_
              exact hJ_25 _ _ _ _ hF _ _ _ hP hS (lv_sub hl [1, 2, 3, 4, 5, 0] rfl)
            · have hF := hF.2 c_8
              refine lv_aload_n hx hb dX0_knowBest_93 rfl (lv_at hl 0 rfl) ?_
              refine gF S hK hP i0 e_G rfl 2 (by decide) k22 f_G_bestRow dX0_knowBest_94 ?_
              refine lv_iload hx hb dX0_knowBest_97 (lv_at hl 6 rfl) ?_
              refine lv_aload_n hx hb dX0_knowBest_99 rfl (lv_at hl 0 rfl) ?_
              refine gF S hK hP i0 e_G rfl 1 (by decide) k18 f_G_row dX0_knowBest_100 ?_
              refine lv_iload hx hb dX0_knowBest_103 (lv_at hl 6 rfl) ?_
              refine goI (rSN (rest := [.int x8_84, .ref (ad 25)]) S hK hP (ctX6_at l D cI cJ ad had 24 rfl x8_84 _ _ hF) ⟨va_cnB 2 hts ggX0_knowBest_X6_at rfl rfl rfl (hK.2 _ nw_RX0_42) (hts (.initialized RX6) (by decide +kernel)) hdS_X6_at ⟨Nat.le_of_ble_eq_true rfl, Nat.le_of_ble_eq_true rfl⟩, hts (.static yX6_at) (by decide +kernel), trivial⟩ rfl hl.1 rfl (Nat.le_of_ble_eq_true rfl) dX0_knowBest_105 ⟨Nat.zero_le _, Nat.zero_le _⟩) hS (fun _ h => h) (fun r_9 M_9 H locs hP hS hF => ?_)
              refine goV (rSN (rest := []) S hK hP (ctX6_set l D cI cJ ad had 25 rfl x8_84 r_9 _ _ hF) ⟨va_cnB 3 hts ggX0_knowBest_X6_set rfl rfl rfl (hK.2 _ nw_RX0_72) (hts (.initialized RX6) (by decide +kernel)) hdS_X6_set ⟨Nat.le_of_ble_eq_true rfl, Nat.le_of_ble_eq_true rfl⟩, hts (.static yX6_set) (by decide +kernel), trivial⟩ rfl hl.1 rfl (Nat.le_of_ble_eq_true rfl) dX0_knowBest_108 ⟨Nat.zero_le _, Nat.zero_le _⟩) hS (fun _ h => h) (fun M_10 H locs hP hS hF => ?_)
              refine lv_iinc (v := (x8_84 + 1)) (lv' := [(8, .int (x8_84 + 1)), (0, .ref (ad 5)), (1, .ref (ad 3)), (2, .long y2_84), (4, .long y4_84), (6, .int r_2), (7, .int x7_25)]) hx hb dX0_knowBest_111 hl (k := 6) rfl rfl (by decide) rfl (fun ls hl => ?_)
              refine lv_goto (tgt := 84) hx hb dX0_knowBest_114 (by decide) ?_
              exact hJ_84 _ _ hF _ _ _ hP hS (lv_sub hl [1, 2, 3, 4, 5, 6, 0] rfl)
          exact key_84 _ _ _ _ hF _ _ _ hP hS (lv_sub hl [3, 4, 2, 1, 5, 6, 0] rfl)
        · have hF := hF.2 c_7
          refine lv_aload_n hx hb dX0_knowBest_53 rfl (lv_at hl 0 rfl) ?_
          refine gF S hK hP i0 e_G rfl 4 (by decide) k60 f_G_upper dX0_knowBest_54 ?_
          refine lv_aload_n hx hb dX0_knowBest_57 rfl (lv_at hl 0 rfl) ?_
          refine gF S hK hP i0 e_G rfl 5 (by decide) k69 f_G_lower dX0_knowBest_58 ?_
          refine lv_lload_n hx hb dX0_knowBest_61 rfl (lv_at hl 2 rfl) ?_
          refine lv_lload hx hb dX0_knowBest_62 (lv_at hl 3 rfl) ?_
          refine goI (rSN (rest := []) S hK hP (ctX6_compareShares l D cI cJ ad had (gj M_6 2) (gj M_6 3) x2_25 x4_25 _ _ hF) ⟨va_cnB 4 hts ggX0_knowBest_X6_compareShares rfl rfl rfl (hK.2 _ nw_RX0_87) (hts (.initialized RX6) (by decide +kernel)) hdS_X6_compareShares ⟨Nat.le_of_ble_eq_true rfl, Nat.le_of_ble_eq_true rfl⟩, hts (.static yX6_compareShares) (by decide +kernel), trivial⟩ rfl hl.1 rfl (Nat.le_of_ble_eq_true rfl) dX0_knowBest_64 ⟨Nat.zero_le _, Nat.zero_le _⟩) hS (fun _ h => h) (fun r_11 M_11 H locs hP hS hF => ?_)
          refine lv_if_le (tgt := 117) hx hb dX0_knowBest_67 (by decide) (fun c_12 => ?_) (fun c_12 => ?_)
          · have hF := hF.1 c_12
            refine lv_iinc (v := (x7_25 + 1)) (lv' := [(7, .int (x7_25 + 1)), (0, .ref (ad 5)), (1, .ref (ad 3)), (2, .long x2_25), (4, .long x4_25), (6, .int r_2)]) hx hb dX0_knowBest_117 hl (k := 5) rfl rfl (by decide) rfl (fun ls hl => ?_)
            refine lv_goto (tgt := 25) hx hb dX0_knowBest_120 (by decide) ?_
            exact hJ_25 _ _ _ _ hF _ _ _ hP hS (lv_sub hl [1, 2, 3, 4, 5, 0] rfl)
          · have hF := hF.2 c_12
            refine lv_aload_n hx hb dX0_knowBest_70 rfl (lv_at hl 0 rfl) ?_
            refine gF S hK hP i0 e_G rfl 4 (by decide) k60 f_G_upper dX0_knowBest_71 ?_
            refine lv_lstore_n (lv' := [(2, .long (gj M_11 2)), (0, .ref (ad 5)), (1, .ref (ad 3)), (4, .long x4_25), (6, .int r_2), (7, .int x7_25)]) hx hb dX0_knowBest_74 rfl hl (by decide) rfl (fun ls hl => ?_)
            refine lv_aload_n hx hb dX0_knowBest_75 rfl (lv_at hl 1 rfl) ?_
            refine gF S hK hP i0 e_G rfl 5 (by decide) k69 f_G_lower dX0_knowBest_76 ?_
            refine lv_lstore (lv' := [(4, .long (gj M_11 3)), (2, .long (gj M_11 2)), (0, .ref (ad 5)), (1, .ref (ad 3)), (6, .int r_2), (7, .int x7_25)]) hx hb dX0_knowBest_79 hl (by decide) rfl (fun ls hl => ?_)
            refine lv_iconst (v := 0) hx hb dX0_knowBest_81 (by decide) ?_
            refine lv_istore (lv' := [(8, .int (0 : Int32)), (4, .long (gj M_11 3)), (2, .long (gj M_11 2)), (0, .ref (ad 5)), (1, .ref (ad 3)), (6, .int r_2), (7, .int x7_25)]) hx hb dX0_knowBest_82 hl (by decide) rfl (fun ls hl => ?_)
            have key_84 : ∀ (y2_84 : Int64) (y4_84 : Int64) (x8_84 : Int32) (m84 : Mm), (lX0_knowBest_84 r_2 x7_25 y2_84 y4_84 Q J_25 x8_84 m84) → Wc p l e ({ frames := 5, cells := 0, slots := 0, locals := 112 } : Room) s m args below meth c D cI cJ ad (MQ below (QvW D cI cJ ad Q) args s 0 0 (Fr ad)) 9 84 [(0, .ref (ad 5)), (1, .ref (ad 3)), (2, .long y2_84), (4, .long y4_84), (6, .int r_2), (7, .int x7_25), (8, .int x8_84)] m84 := by
              intro y2_84 y4_84 x8_84 m84 hL
              refine hL (fun x8_84 m84 => Wc p l e ({ frames := 5, cells := 0, slots := 0, locals := 112 } : Room) s m args below meth c D cI cJ ad (MQ below (QvW D cI cJ ad Q) args s 0 0 (Fr ad)) 9 84 [(0, .ref (ad 5)), (1, .ref (ad 3)), (2, .long y2_84), (4, .long y4_84), (6, .int r_2), (7, .int x7_25), (8, .int x8_84)] m84) ?_
              intro J_84 hJ_84 x8_84 m84 hF H locs ls hP hS hl
              unfold bX0_knowBest_84 at hF
              refine lv_iload hx hb dX0_knowBest_84 (lv_at hl 6 rfl) ?_
              refine lv_aload_n hx hb dX0_knowBest_86 rfl (lv_at hl 1 rfl) ?_
              refine gN S hK hP i2 e_P rfl 6 (by decide) nw_RX0_33 f_P_sorts dX0_knowBest_87 ?_
              refine lv_icmp_ge (tgt := 117) hx hb dX0_knowBest_90 (by decide) (fun c_13 => ?_) (fun c_13 => ?_)
              · have hF := hF.1 c_13
                refine lv_iinc (v := (x7_25 + 1)) (lv' := [(7, .int (x7_25 + 1)), (0, .ref (ad 5)), (1, .ref (ad 3)), (2, .long y2_84), (4, .long y4_84), (6, .int r_2), (8, .int x8_84)]) hx hb dX0_knowBest_117 hl (k := 5) rfl rfl (by decide) rfl (fun ls hl => ?_)
                refine lv_goto (tgt := 25) hx hb dX0_knowBest_120 (by decide) ?_
                exact hJ_25 _ _ _ _ hF _ _ _ hP hS (lv_sub hl [1, 2, 3, 4, 5, 0] rfl)
              · have hF := hF.2 c_13
                refine lv_aload_n hx hb dX0_knowBest_93 rfl (lv_at hl 0 rfl) ?_
                refine gF S hK hP i0 e_G rfl 2 (by decide) k22 f_G_bestRow dX0_knowBest_94 ?_
                refine lv_iload hx hb dX0_knowBest_97 (lv_at hl 6 rfl) ?_
                refine lv_aload_n hx hb dX0_knowBest_99 rfl (lv_at hl 0 rfl) ?_
                refine gF S hK hP i0 e_G rfl 1 (by decide) k18 f_G_row dX0_knowBest_100 ?_
                refine lv_iload hx hb dX0_knowBest_103 (lv_at hl 6 rfl) ?_
                refine goI (rSN (rest := [.int x8_84, .ref (ad 25)]) S hK hP (ctX6_at l D cI cJ ad had 24 rfl x8_84 _ _ hF) ⟨va_cnB 2 hts ggX0_knowBest_X6_at rfl rfl rfl (hK.2 _ nw_RX0_42) (hts (.initialized RX6) (by decide +kernel)) hdS_X6_at ⟨Nat.le_of_ble_eq_true rfl, Nat.le_of_ble_eq_true rfl⟩, hts (.static yX6_at) (by decide +kernel), trivial⟩ rfl hl.1 rfl (Nat.le_of_ble_eq_true rfl) dX0_knowBest_105 ⟨Nat.zero_le _, Nat.zero_le _⟩) hS (fun _ h => h) (fun r_14 M_14 H locs hP hS hF => ?_)
                refine goV (rSN (rest := []) S hK hP (ctX6_set l D cI cJ ad had 25 rfl x8_84 r_14 _ _ hF) ⟨va_cnB 3 hts ggX0_knowBest_X6_set rfl rfl rfl (hK.2 _ nw_RX0_72) (hts (.initialized RX6) (by decide +kernel)) hdS_X6_set ⟨Nat.le_of_ble_eq_true rfl, Nat.le_of_ble_eq_true rfl⟩, hts (.static yX6_set) (by decide +kernel), trivial⟩ rfl hl.1 rfl (Nat.le_of_ble_eq_true rfl) dX0_knowBest_108 ⟨Nat.zero_le _, Nat.zero_le _⟩) hS (fun _ h => h) (fun M_15 H locs hP hS hF => ?_)
                refine lv_iinc (v := (x8_84 + 1)) (lv' := [(8, .int (x8_84 + 1)), (0, .ref (ad 5)), (1, .ref (ad 3)), (2, .long y2_84), (4, .long y4_84), (6, .int r_2), (7, .int x7_25)]) hx hb dX0_knowBest_111 hl (k := 6) rfl rfl (by decide) rfl (fun ls hl => ?_)
                refine lv_goto (tgt := 84) hx hb dX0_knowBest_114 (by decide) ?_
                exact hJ_84 _ _ hF _ _ _ hP hS (lv_sub hl [1, 2, 3, 4, 5, 6, 0] rfl)
            exact key_84 _ _ _ _ hF _ _ _ hP hS (lv_sub hl [3, 4, 2, 1, 5, 6, 0] rfl)
    exact key_25 _ _ _ _ hF _ _ _ hP hS (lv_sub hl [4, 5, 3, 2, 1, 0] rfl)
  · have hF := hF.2 c_1
    exact retV S hr hlocks hP hS hF dX0_knowBest_7
def bX1_tillLess_8 (o : Nat) (a1 : Int32) (a2 : Int32) (Q : Int64 → Mm → Prop) (J_8 : Int64 → Int64 → Int32 → Mm → Prop) (x3_8 : Int64) (x5_8 : Int64) (x7_8 : Int32) (m8 : Mm) : Prop := ((x7_8 < a1 → (wX6_share x3_8 x5_8 a2 (fun r_2 M_2 => (Q r_2 M_2)) m8)) ∧ (¬ x7_8 < a1 → (wX1_grows o x7_8 (fun r_3 M_3 => (wX1_shrinks o x7_8 (fun r_4 M_4 => (J_8 (((((12 : Int32) * (gi m8 (19+2*o))).toInt64) * x5_8) + (r_3 * x3_8)) (r_4 * x5_8) (x7_8 + (-1)) M_4)) M_3)) m8)))
def lX1_tillLess_8 (o : Nat) (a1 : Int32) (a2 : Int32) (Q : Int64 → Mm → Prop) (x3_8 : Int64) (x5_8 : Int64) (x7_8 : Int32) (m8 : Mm) : Prop := ∀ I : Int64 → Int64 → Int32 → Mm → Prop, (∀ J : Int64 → Int64 → Int32 → Mm → Prop, (∀ (x3_8 : Int64) (x5_8 : Int64) (x7_8 : Int32) (m : Mm), J x3_8 x5_8 x7_8 m → I x3_8 x5_8 x7_8 m) → ∀ (x3_8 : Int64) (x5_8 : Int64) (x7_8 : Int32) (m : Mm), bX1_tillLess_8 o a1 a2 Q J x3_8 x5_8 x7_8 m → I x3_8 x5_8 x7_8 m) → I x3_8 x5_8 x7_8 m8
theorem lX1_tillLess_8_mk (o : Nat) (a1 : Int32) (a2 : Int32) (Q : Int64 → Mm → Prop) (x3_8 : Int64) (x5_8 : Int64) (x7_8 : Int32) (m8 : Mm) (h : bX1_tillLess_8 o a1 a2 Q (lX1_tillLess_8 o a1 a2 Q) x3_8 x5_8 x7_8 m8) : lX1_tillLess_8 o a1 a2 Q x3_8 x5_8 x7_8 m8 := fun I hI => hI (lX1_tillLess_8 o a1 a2 Q) (fun _ _ _ _ q => q I hI) _ _ _ _ h
def wX1_tillLess (o : Nat) (a1 : Int32) (a2 : Int32) (Q : Int64 → Mm → Prop) (M : Mm) : Prop := (lX1_tillLess_8 o a1 a2 Q (0 : Int64) (1 : Int64) (5 : Int32) M)
set_option maxHeartbeats 4000000 in
set_option maxRecDepth 100000 in
theorem ctX1_tillLess (l : Launch) (D : va_G) (cI cJ : ClassId) (ad : Nat → Nat) (had : inj54 ad) (o : Nat) (ho : o < 2) (a1 : Int32) (a2 : Int32) (Q : Int64 → Mm → Prop) (M : Mm) (hF : wX1_tillLess o a1 a2 Q M) : Met l yX1_tillLess wsX1_tillLess ({ frames := 2, cells := 0, slots := 0, locals := 56 } : Room) (PcW D cI cJ ad M [.ref (ad (4+3*o)), .int a1, .int a2]) (QlW D cI cJ ad Q) 0 0 (Fr ad) := by
  refine entW (y := yX1_tillLess) (ret := some .long) (maxL := 8) (plainFor_of_name (by decide)) rfl (Nat.le_of_ble_eq_true rfl) ?_
  intro p e s m args below meth c ls S hK hr hlocks hP hS hl
  have hx := S.1
  have hb := S.2.1
  have hown := S.2.2.2.1
  have hts := S.2.2.2.2
  have i1 : ∀ w ∈ wsX10, w ∈ wsX1_tillLess := by decide +kernel
  have k32 := hts (.fieldLink RX1 32 "RopeLine$Lengths" "whole" "I") (by decide +kernel)
  have hl : lv_has ls 8 [(0, .ref (ad (4+3*o))), (1, .int a1), (2, .int a2)] := hl
  unfold wX1_tillLess at hF
  refine lv_lconst (v := 0) hx hb dX1_tillLess_0 (by decide) ?_
  refine lv_lstore_n (lv' := [(3, .long (0 : Int64)), (0, .ref (ad (4+3*o))), (1, .int a1), (2, .int a2)]) hx hb dX1_tillLess_1 rfl hl (by decide) rfl (fun ls hl => ?_)
  refine lv_lconst (v := 1) hx hb dX1_tillLess_2 (by decide) ?_
  refine lv_lstore (lv' := [(5, .long (1 : Int64)), (3, .long (0 : Int64)), (0, .ref (ad (4+3*o))), (1, .int a1), (2, .int a2)]) hx hb dX1_tillLess_3 hl (by decide) rfl (fun ls hl => ?_)
  refine lv_iconst (v := 5) hx hb dX1_tillLess_5 (by decide) ?_
  refine lv_istore (lv' := [(7, .int (5 : Int32)), (5, .long (1 : Int64)), (3, .long (0 : Int64)), (0, .ref (ad (4+3*o))), (1, .int a1), (2, .int a2)]) hx hb dX1_tillLess_6 hl (by decide) rfl (fun ls hl => ?_)
  have key_8 : ∀ (x3_8 : Int64) (x5_8 : Int64) (x7_8 : Int32) (m8 : Mm), (lX1_tillLess_8 o a1 a2 Q x3_8 x5_8 x7_8 m8) → Wc p l e ({ frames := 2, cells := 0, slots := 0, locals := 56 } : Room) s m args below meth c D cI cJ ad (MQ below (QlW D cI cJ ad Q) args s 0 0 (Fr ad)) 8 8 [(0, .ref (ad (4+3*o))), (1, .int a1), (2, .int a2), (3, .long x3_8), (5, .long x5_8), (7, .int x7_8)] m8 := by
    intro x3_8 x5_8 x7_8 m8 hL
    refine hL (fun x3_8 x5_8 x7_8 m8 => Wc p l e ({ frames := 2, cells := 0, slots := 0, locals := 56 } : Room) s m args below meth c D cI cJ ad (MQ below (QlW D cI cJ ad Q) args s 0 0 (Fr ad)) 8 8 [(0, .ref (ad (4+3*o))), (1, .int a1), (2, .int a2), (3, .long x3_8), (5, .long x5_8), (7, .int x7_8)] m8) ?_
    intro J_8 hJ_8 x3_8 x5_8 x7_8 m8 hF H locs ls hP hS hl
    unfold bX1_tillLess_8 at hF
    refine lv_iload hx hb dX1_tillLess_8 (lv_at hl 5 rfl) ?_
    refine lv_iload_n hx hb dX1_tillLess_10 rfl (lv_at hl 1 rfl) ?_
    refine lv_icmp_lt (tgt := 52) hx hb dX1_tillLess_11 (by decide) (fun c_1 => ?_) (fun c_1 => ?_)
    · have hF := hF.1 c_1
      refine lv_lload_n hx hb dX1_tillLess_52 rfl (lv_at hl 3 rfl) ?_
      refine lv_lload hx hb dX1_tillLess_53 (lv_at hl 4 rfl) ?_
      refine lv_iload_n hx hb dX1_tillLess_55 rfl (lv_at hl 2 rfl) ?_
      refine goL (rSN (rest := []) S hK hP (ctX6_share l D cI cJ ad had x3_8 x5_8 a2 _ _ hF) ⟨va_cnB 3 hts ggX1_tillLess_X6_share rfl rfl rfl (hK.2 _ nw_RX1_71) (hts (.initialized RX6) (by decide +kernel)) hdS_X6_share ⟨Nat.le_of_ble_eq_true rfl, Nat.le_of_ble_eq_true rfl⟩, hts (.static yX6_share) (by decide +kernel), trivial⟩ rfl hl.1 rfl (Nat.le_of_ble_eq_true rfl) dX1_tillLess_56 ⟨Nat.zero_le _, Nat.zero_le _⟩) hS (fun _ h => h) (fun r_2 M_2 H locs hP hS hF => ?_)
      exact retL S hr hlocks hP hS hF dX1_tillLess_59
    · have hF := hF.2 c_1
      refine lv_bipush (v := 12) hx hb dX1_tillLess_14 (by decide) ?_
      refine lv_aload_n hx hb dX1_tillLess_16 rfl (lv_at hl 0 rfl) ?_
      refine gF S hK hP i1 (e_L ho) rfl 5 (by decide) k32 f_L_whole dX1_tillLess_17 ?_
      refine lv_imul hx hb dX1_tillLess_20 ?_
      refine lv_i2l hx hb dX1_tillLess_21 rfl ?_
      refine lv_lload hx hb dX1_tillLess_22 (lv_at hl 4 rfl) ?_
      refine lv_lmul hx hb dX1_tillLess_24 ?_
      refine lv_aload_n hx hb dX1_tillLess_25 rfl (lv_at hl 0 rfl) ?_
      refine lv_iload hx hb dX1_tillLess_26 (lv_at hl 5 rfl) ?_
      refine goL (rV (rest := [.long ((((12 : Int32) * (gi m8 (19+2*o))).toInt64) * x5_8)]) S hK hP (ctX1_grows l D cI cJ ad had o ho x7_8 _ _ hF) (cwV 1 hts gX1_tillLess_X1_grows rfl rfl rfl hdV_X1_grows ⟨Nat.le_of_ble_eq_true rfl, Nat.le_of_ble_eq_true rfl⟩) (e_L ho) rfl rfl hl.1 rfl (Nat.le_of_ble_eq_true rfl) dX1_tillLess_28 ⟨Nat.zero_le _, Nat.zero_le _⟩) hS (fun _ h => h) (fun r_3 M_3 H locs hP hS hF => ?_)
      refine lv_lload_n hx hb dX1_tillLess_31 rfl (lv_at hl 3 rfl) ?_
      refine lv_lmul hx hb dX1_tillLess_32 ?_
      refine lv_ladd hx hb dX1_tillLess_33 ?_
      refine lv_lstore_n (lv' := [(3, .long (((((12 : Int32) * (gi m8 (19+2*o))).toInt64) * x5_8) + (r_3 * x3_8))), (0, .ref (ad (4+3*o))), (1, .int a1), (2, .int a2), (5, .long x5_8), (7, .int x7_8)]) hx hb dX1_tillLess_34 rfl hl (by decide) rfl (fun ls hl => ?_)
      refine lv_aload_n hx hb dX1_tillLess_35 rfl (lv_at hl 1 rfl) ?_
      refine lv_iload hx hb dX1_tillLess_36 (lv_at hl 5 rfl) ?_
      refine goL (rV (rest := []) S hK hP (ctX1_shrinks l D cI cJ ad had o ho x7_8 _ _ hF) (cwV 1 hts gX1_tillLess_X1_shrinks rfl rfl rfl hdV_X1_shrinks ⟨Nat.le_of_ble_eq_true rfl, Nat.le_of_ble_eq_true rfl⟩) (e_L ho) rfl rfl hl.1 rfl (Nat.le_of_ble_eq_true rfl) dX1_tillLess_38 ⟨Nat.zero_le _, Nat.zero_le _⟩) hS (fun _ h => h) (fun r_4 M_4 H locs hP hS hF => ?_)
      refine lv_lload hx hb dX1_tillLess_41 (lv_at hl 4 rfl) ?_
      refine lv_lmul hx hb dX1_tillLess_43 ?_
      refine lv_lstore (lv' := [(5, .long (r_4 * x5_8)), (3, .long (((((12 : Int32) * (gi m8 (19+2*o))).toInt64) * x5_8) + (r_3 * x3_8))), (0, .ref (ad (4+3*o))), (1, .int a1), (2, .int a2), (7, .int x7_8)]) hx hb dX1_tillLess_44 hl (by decide) rfl (fun ls hl => ?_)
      refine lv_iinc (v := (x7_8 + (-1))) (lv' := [(7, .int (x7_8 + (-1))), (5, .long (r_4 * x5_8)), (3, .long (((((12 : Int32) * (gi m8 (19+2*o))).toInt64) * x5_8) + (r_3 * x3_8))), (0, .ref (ad (4+3*o))), (1, .int a1), (2, .int a2)]) hx hb dX1_tillLess_46 hl (k := 5) rfl rfl (by decide) rfl (fun ls hl => ?_)
      refine lv_goto (tgt := 8) hx hb dX1_tillLess_49 (by decide) ?_
      exact hJ_8 _ _ _ _ hF _ _ _ hP hS (lv_sub hl [3, 4, 5, 2, 1, 0] rfl)
  exact key_8 _ _ _ _ hF _ _ _ hP hS (lv_sub hl [3, 4, 5, 2, 1, 0] rfl)
def bX1_goOn_105 (o : Nat) (Q : Mm → Prop) (J_2 : Int32 → Mm → Prop) (J_105 : Int32 → Mm → Prop) (x1_105 : Int32) (m105 : Mm) : Prop := (((6 : Int32) ≤ x1_105 → (Q m105)) ∧ (¬ (6 : Int32) ≤ x1_105 → (wX6_at_ (19+4*o) x1_105 (fun r_3 M_3 => (wX6_set_ (18+4*o) x1_105 r_3 (fun M_4 => (J_105 (x1_105 + 1) M_4)) M_3)) m105)))
def lX1_goOn_105 (o : Nat) (Q : Mm → Prop) (J_2 : Int32 → Mm → Prop) (x1_105 : Int32) (m105 : Mm) : Prop := ∀ I : Int32 → Mm → Prop, (∀ J : Int32 → Mm → Prop, (∀ (x1_105 : Int32) (m : Mm), J x1_105 m → I x1_105 m) → ∀ (x1_105 : Int32) (m : Mm), bX1_goOn_105 o Q J_2 J x1_105 m → I x1_105 m) → I x1_105 m105
theorem lX1_goOn_105_mk (o : Nat) (Q : Mm → Prop) (J_2 : Int32 → Mm → Prop) (x1_105 : Int32) (m105 : Mm) (h : bX1_goOn_105 o Q J_2 (lX1_goOn_105 o Q J_2) x1_105 m105) : lX1_goOn_105 o Q J_2 x1_105 m105 := fun I hI => hI (lX1_goOn_105 o Q J_2) (fun _ _ q => q I hI) _ _ h
def bX1_goOn_2 (o : Nat) (Q : Mm → Prop) (J_2 : Int32 → Mm → Prop) (x1_2 : Int32) (m2 : Mm) : Prop := (((6 : Int32) ≤ x1_2 → (lX1_goOn_105 o Q J_2 (0 : Int32) m2)) ∧ (¬ (6 : Int32) ≤ x1_2 → (wX1_grows o x1_2 (fun r_5 M_5 => (wX1_shrinks o x1_2 (fun r_6 M_6 => ((x1_2 ≤ 0 → (wX6_at_ (18+4*o) x1_2 (fun r_8 M_8 => (wX6_at_ (18+4*o) (x1_2 + (1 : Int32)) (fun r_9 M_9 => (wX1_shrinks o (x1_2 + (1 : Int32)) (fun r_10 M_10 => (wX6_set_ (19+4*o) x1_2 (((r_8 * (((((12 : Int32) * (gi m2 (19+2*o))).toInt64) - r_5) - r_6)) + (0 : Int64)) + (r_9 * r_10)) (fun M_11 => (J_2 (x1_2 + 1) M_11)) M_10)) M_9)) M_8)) M_6)) ∧ (¬ x1_2 ≤ 0 → (wX6_at_ (18+4*o) (x1_2 - (1 : Int32)) (fun r_12 M_12 => (wX1_grows o (x1_2 - (1 : Int32)) (fun r_13 M_13 => (wX6_at_ (18+4*o) x1_2 (fun r_14 M_14 => (wX6_at_ (18+4*o) (x1_2 + (1 : Int32)) (fun r_15 M_15 => (wX1_shrinks o (x1_2 + (1 : Int32)) (fun r_16 M_16 => (wX6_set_ (19+4*o) x1_2 (((r_14 * (((((12 : Int32) * (gi m2 (19+2*o))).toInt64) - r_5) - r_6)) + (r_12 * r_13)) + (r_15 * r_16)) (fun M_17 => (J_2 (x1_2 + 1) M_17)) M_16)) M_15)) M_14)) M_13)) M_12)) M_6)))) M_5)) m2)))
def lX1_goOn_2 (o : Nat) (Q : Mm → Prop) (x1_2 : Int32) (m2 : Mm) : Prop := ∀ I : Int32 → Mm → Prop, (∀ J : Int32 → Mm → Prop, (∀ (x1_2 : Int32) (m : Mm), J x1_2 m → I x1_2 m) → ∀ (x1_2 : Int32) (m : Mm), bX1_goOn_2 o Q J x1_2 m → I x1_2 m) → I x1_2 m2
theorem lX1_goOn_2_mk (o : Nat) (Q : Mm → Prop) (x1_2 : Int32) (m2 : Mm) (h : bX1_goOn_2 o Q (lX1_goOn_2 o Q) x1_2 m2) : lX1_goOn_2 o Q x1_2 m2 := fun I hI => hI (lX1_goOn_2 o Q) (fun _ _ q => q I hI) _ _ h
def wX1_goOn (o : Nat) (Q : Mm → Prop) (M : Mm) : Prop := (lX1_goOn_2 o Q (0 : Int32) M)
set_option maxHeartbeats 4000000 in
set_option maxRecDepth 100000 in
theorem ctX1_goOn (l : Launch) (D : va_G) (cI cJ : ClassId) (ad : Nat → Nat) (had : inj54 ad) (o : Nat) (ho : o < 2) (Q : Mm → Prop) (M : Mm) (hF : wX1_goOn o Q M) : Met l yX1_goOn wsX1_goOn ({ frames := 2, cells := 0, slots := 0, locals := 42 } : Room) (PcW D cI cJ ad M [.ref (ad (4+3*o))]) (QvW D cI cJ ad Q) 0 0 (Fr ad) := by
  refine entW (y := yX1_goOn) (ret := none) (maxL := 6) (plainFor_of_name (by decide)) rfl (Nat.le_of_ble_eq_true rfl) ?_
  intro p e s m args below meth c ls S hK hr hlocks hP hS hl
  have hx := S.1
  have hb := S.2.1
  have hown := S.2.2.2.1
  have hts := S.2.2.2.2
  have i1 : ∀ w ∈ wsX10, w ∈ wsX1_goOn := by decide +kernel
  have k19 := hts (.fieldLink RX1 19 "RopeLine$Lengths" "now" "[J") (by decide +kernel)
  have k22 := hts (.fieldLink RX1 22 "RopeLine$Lengths" "then" "[J") (by decide +kernel)
  have k32 := hts (.fieldLink RX1 32 "RopeLine$Lengths" "whole" "I") (by decide +kernel)
  have hl : lv_has ls 6 [(0, .ref (ad (4+3*o)))] := hl
  unfold wX1_goOn at hF
  refine lv_iconst (v := 0) hx hb dX1_goOn_0 (by decide) ?_
  refine lv_istore_n (lv' := [(1, .int (0 : Int32)), (0, .ref (ad (4+3*o)))]) hx hb dX1_goOn_1 rfl hl (by decide) rfl (fun ls hl => ?_)
  have key_2 : ∀ (x1_2 : Int32) (m2 : Mm), (lX1_goOn_2 o Q x1_2 m2) → Wc p l e ({ frames := 2, cells := 0, slots := 0, locals := 42 } : Room) s m args below meth c D cI cJ ad (MQ below (QvW D cI cJ ad Q) args s 0 0 (Fr ad)) 6 2 [(0, .ref (ad (4+3*o))), (1, .int x1_2)] m2 := by
    intro x1_2 m2 hL
    refine hL (fun x1_2 m2 => Wc p l e ({ frames := 2, cells := 0, slots := 0, locals := 42 } : Room) s m args below meth c D cI cJ ad (MQ below (QvW D cI cJ ad Q) args s 0 0 (Fr ad)) 6 2 [(0, .ref (ad (4+3*o))), (1, .int x1_2)] m2) ?_
    intro J_2 hJ_2 x1_2 m2 hF H locs ls hP hS hl
    unfold bX1_goOn_2 at hF
    refine lv_iload_n hx hb dX1_goOn_2 rfl (lv_at hl 1 rfl) ?_
    refine lv_bipush (v := 6) hx hb dX1_goOn_3 (by decide) ?_
    refine lv_icmp_ge (tgt := 103) hx hb dX1_goOn_5 (by decide) (fun c_1 => ?_) (fun c_1 => ?_)
    · have hF := hF.1 c_1
      refine lv_iconst (v := 0) hx hb dX1_goOn_103 (by decide) ?_
      refine lv_istore_n (lv' := [(1, .int (0 : Int32)), (0, .ref (ad (4+3*o)))]) hx hb dX1_goOn_104 rfl hl (by decide) rfl (fun ls hl => ?_)
      have key_105 : ∀ (x1_105 : Int32) (m105 : Mm), (lX1_goOn_105 o Q J_2 x1_105 m105) → Wc p l e ({ frames := 2, cells := 0, slots := 0, locals := 42 } : Room) s m args below meth c D cI cJ ad (MQ below (QvW D cI cJ ad Q) args s 0 0 (Fr ad)) 6 105 [(0, .ref (ad (4+3*o))), (1, .int x1_105)] m105 := by
        intro x1_105 m105 hL
        refine hL (fun x1_105 m105 => Wc p l e ({ frames := 2, cells := 0, slots := 0, locals := 42 } : Room) s m args below meth c D cI cJ ad (MQ below (QvW D cI cJ ad Q) args s 0 0 (Fr ad)) 6 105 [(0, .ref (ad (4+3*o))), (1, .int x1_105)] m105) ?_
        intro J_105 hJ_105 x1_105 m105 hF H locs ls hP hS hl
        unfold bX1_goOn_105 at hF
        refine lv_iload_n hx hb dX1_goOn_105 rfl (lv_at hl 1 rfl) ?_
        refine lv_bipush (v := 6) hx hb dX1_goOn_106 (by decide) ?_
        refine lv_icmp_ge (tgt := 133) hx hb dX1_goOn_108 (by decide) (fun c_2 => ?_) (fun c_2 => ?_)
        · have hF := hF.1 c_2
          exact retV S hr hlocks hP hS hF dX1_goOn_133
        · have hF := hF.2 c_2
          refine lv_aload_n hx hb dX1_goOn_111 rfl (lv_at hl 0 rfl) ?_
          refine gF S hK hP i1 (e_L ho) rfl 2 (by decide) k19 f_L_now dX1_goOn_112 ?_
          refine lv_iload_n hx hb dX1_goOn_115 rfl (lv_at hl 1 rfl) ?_
          refine lv_aload_n hx hb dX1_goOn_116 rfl (lv_at hl 0 rfl) ?_
          refine gF S hK hP i1 (e_L ho) rfl 3 (by decide) k22 f_L_then dX1_goOn_117 ?_
          refine lv_iload_n hx hb dX1_goOn_120 rfl (lv_at hl 1 rfl) ?_
          refine goL (rSN (rest := [.int x1_105, .ref (ad (18+4*o))]) S hK hP (ctX6_at_ l D cI cJ ad had (19+4*o) (is_L_then ho) x1_105 _ _ hF) ⟨va_cnB 2 hts ggX1_goOn_X6_at_ rfl rfl rfl (hK.2 _ nw_RX1_58) (hts (.initialized RX6) (by decide +kernel)) hdS_X6_at_ ⟨Nat.le_of_ble_eq_true rfl, Nat.le_of_ble_eq_true rfl⟩, hts (.static yX6_at_) (by decide +kernel), trivial⟩ rfl hl.1 rfl (Nat.le_of_ble_eq_true rfl) dX1_goOn_121 ⟨Nat.zero_le _, Nat.zero_le _⟩) hS (fun _ h => h) (fun r_3 M_3 H locs hP hS hF => ?_)
          refine goV (rSN (rest := []) S hK hP (ctX6_set_ l D cI cJ ad had (18+4*o) (is_L_now ho) x1_105 r_3 _ _ hF) ⟨va_cnB 3 hts ggX1_goOn_X6_set_ rfl rfl rfl (hK.2 _ nw_RX1_51) (hts (.initialized RX6) (by decide +kernel)) hdS_X6_set_ ⟨Nat.le_of_ble_eq_true rfl, Nat.le_of_ble_eq_true rfl⟩, hts (.static yX6_set_) (by decide +kernel), trivial⟩ rfl hl.1 rfl (Nat.le_of_ble_eq_true rfl) dX1_goOn_124 ⟨Nat.zero_le _, Nat.zero_le _⟩) hS (fun _ h => h) (fun M_4 H locs hP hS hF => ?_)
          refine lv_iinc (v := (x1_105 + 1)) (lv' := [(1, .int (x1_105 + 1)), (0, .ref (ad (4+3*o)))]) hx hb dX1_goOn_127 hl (k := 1) rfl rfl (by decide) rfl (fun ls hl => ?_)
          refine lv_goto (tgt := 105) hx hb dX1_goOn_130 (by decide) ?_
          exact hJ_105 _ _ hF _ _ _ hP hS (lv_sub hl [1, 0] rfl)
      exact key_105 _ _ hF _ _ _ hP hS (lv_sub hl [1, 0] rfl)
    · have hF := hF.2 c_1
      refine lv_bipush (v := 12) hx hb dX1_goOn_8 (by decide) ?_
      refine lv_aload_n hx hb dX1_goOn_10 rfl (lv_at hl 0 rfl) ?_
      refine gF S hK hP i1 (e_L ho) rfl 5 (by decide) k32 f_L_whole dX1_goOn_11 ?_
      refine lv_imul hx hb dX1_goOn_14 ?_
      refine lv_i2l hx hb dX1_goOn_15 rfl ?_
      refine lv_aload_n hx hb dX1_goOn_16 rfl (lv_at hl 0 rfl) ?_
      refine lv_iload_n hx hb dX1_goOn_17 rfl (lv_at hl 1 rfl) ?_
      refine goL (rV (rest := [.long (((12 : Int32) * (gi m2 (19+2*o))).toInt64)]) S hK hP (ctX1_grows l D cI cJ ad had o ho x1_2 _ _ hF) (cwV 1 hts gX1_goOn_X1_grows rfl rfl rfl hdV_X1_grows ⟨Nat.le_of_ble_eq_true rfl, Nat.le_of_ble_eq_true rfl⟩) (e_L ho) rfl rfl hl.1 rfl (Nat.le_of_ble_eq_true rfl) dX1_goOn_18 ⟨Nat.zero_le _, Nat.zero_le _⟩) hS (fun _ h => h) (fun r_5 M_5 H locs hP hS hF => ?_)
      refine lv_lsub hx hb dX1_goOn_21 ?_
      refine lv_aload_n hx hb dX1_goOn_22 rfl (lv_at hl 0 rfl) ?_
      refine lv_iload_n hx hb dX1_goOn_23 rfl (lv_at hl 1 rfl) ?_
      refine goL (rV (rest := [.long ((((12 : Int32) * (gi m2 (19+2*o))).toInt64) - r_5)]) S hK hP (ctX1_shrinks l D cI cJ ad had o ho x1_2 _ _ hF) (cwV 1 hts gX1_goOn_X1_shrinks rfl rfl rfl hdV_X1_shrinks ⟨Nat.le_of_ble_eq_true rfl, Nat.le_of_ble_eq_true rfl⟩) (e_L ho) rfl rfl hl.1 rfl (Nat.le_of_ble_eq_true rfl) dX1_goOn_24 ⟨Nat.zero_le _, Nat.zero_le _⟩) hS (fun _ h => h) (fun r_6 M_6 H locs hP hS hF => ?_)
      refine lv_lsub hx hb dX1_goOn_27 ?_
      refine lv_lstore_n (lv' := [(2, .long (((((12 : Int32) * (gi m2 (19+2*o))).toInt64) - r_5) - r_6)), (0, .ref (ad (4+3*o))), (1, .int x1_2)]) hx hb dX1_goOn_28 rfl hl (by decide) rfl (fun ls hl => ?_)
      refine lv_iload_n hx hb dX1_goOn_29 rfl (lv_at hl 2 rfl) ?_
      refine lv_if_le (tgt := 54) hx hb dX1_goOn_30 (by decide) (fun c_7 => ?_) (fun c_7 => ?_)
      · have hF := hF.1 c_7
        refine lv_lconst (v := 0) hx hb dX1_goOn_54 (by decide) ?_
        refine lv_lstore (lv' := [(4, .long (0 : Int64)), (2, .long (((((12 : Int32) * (gi m2 (19+2*o))).toInt64) - r_5) - r_6)), (0, .ref (ad (4+3*o))), (1, .int x1_2)]) hx hb dX1_goOn_55 hl (by decide) rfl (fun ls hl => ?_)
        refine lv_aload_n hx hb dX1_goOn_57 rfl (lv_at hl 2 rfl) ?_
        refine gF S hK hP i1 (e_L ho) rfl 3 (by decide) k22 f_L_then dX1_goOn_58 ?_
        refine lv_iload_n hx hb dX1_goOn_61 rfl (lv_at hl 3 rfl) ?_
        refine lv_aload_n hx hb dX1_goOn_62 rfl (lv_at hl 2 rfl) ?_
        refine gF S hK hP i1 (e_L ho) rfl 2 (by decide) k19 f_L_now dX1_goOn_63 ?_
        refine lv_iload_n hx hb dX1_goOn_66 rfl (lv_at hl 3 rfl) ?_
        refine goL (rSN (rest := [.int x1_2, .ref (ad (19+4*o))]) S hK hP (ctX6_at_ l D cI cJ ad had (18+4*o) (is_L_now ho) x1_2 _ _ hF) ⟨va_cnB 2 hts ggX1_goOn_X6_at_ rfl rfl rfl (hK.2 _ nw_RX1_58) (hts (.initialized RX6) (by decide +kernel)) hdS_X6_at_ ⟨Nat.le_of_ble_eq_true rfl, Nat.le_of_ble_eq_true rfl⟩, hts (.static yX6_at_) (by decide +kernel), trivial⟩ rfl hl.1 rfl (Nat.le_of_ble_eq_true rfl) dX1_goOn_67 ⟨Nat.zero_le _, Nat.zero_le _⟩) hS (fun _ h => h) (fun r_8 M_8 H locs hP hS hF => ?_)
        refine lv_lload_n hx hb dX1_goOn_70 rfl (lv_at hl 1 rfl) ?_
        refine lv_lmul hx hb dX1_goOn_71 ?_
        refine lv_lload hx hb dX1_goOn_72 (lv_at hl 0 rfl) ?_
        refine lv_ladd hx hb dX1_goOn_74 ?_
        refine lv_aload_n hx hb dX1_goOn_75 rfl (lv_at hl 2 rfl) ?_
        refine gF S hK hP i1 (e_L ho) rfl 2 (by decide) k19 f_L_now dX1_goOn_76 ?_
        refine lv_iload_n hx hb dX1_goOn_79 rfl (lv_at hl 3 rfl) ?_
        refine lv_iconst (v := 1) hx hb dX1_goOn_80 (by decide) ?_
        refine lv_iadd hx hb dX1_goOn_81 ?_
        refine goL (rSN (rest := [.long ((r_8 * (((((12 : Int32) * (gi m2 (19+2*o))).toInt64) - r_5) - r_6)) + (0 : Int64)), .int x1_2, .ref (ad (19+4*o))]) S hK hP (ctX6_at_ l D cI cJ ad had (18+4*o) (is_L_now ho) (x1_2 + (1 : Int32)) _ _ hF) ⟨va_cnB 2 hts ggX1_goOn_X6_at_ rfl rfl rfl (hK.2 _ nw_RX1_58) (hts (.initialized RX6) (by decide +kernel)) hdS_X6_at_ ⟨Nat.le_of_ble_eq_true rfl, Nat.le_of_ble_eq_true rfl⟩, hts (.static yX6_at_) (by decide +kernel), trivial⟩ rfl hl.1 rfl (Nat.le_of_ble_eq_true rfl) dX1_goOn_82 ⟨Nat.zero_le _, Nat.zero_le _⟩) hS (fun _ h => h) (fun r_9 M_9 H locs hP hS hF => ?_)
        refine lv_aload_n hx hb dX1_goOn_85 rfl (lv_at hl 2 rfl) ?_
        refine lv_iload_n hx hb dX1_goOn_86 rfl (lv_at hl 3 rfl) ?_
        refine lv_iconst (v := 1) hx hb dX1_goOn_87 (by decide) ?_
        refine lv_iadd hx hb dX1_goOn_88 ?_
        refine goL (rV (rest := [.long r_9, .long ((r_8 * (((((12 : Int32) * (gi m2 (19+2*o))).toInt64) - r_5) - r_6)) + (0 : Int64)), .int x1_2, .ref (ad (19+4*o))]) S hK hP (ctX1_shrinks l D cI cJ ad had o ho (x1_2 + (1 : Int32)) _ _ hF) (cwV 1 hts gX1_goOn_X1_shrinks rfl rfl rfl hdV_X1_shrinks ⟨Nat.le_of_ble_eq_true rfl, Nat.le_of_ble_eq_true rfl⟩) (e_L ho) rfl rfl hl.1 rfl (Nat.le_of_ble_eq_true rfl) dX1_goOn_89 ⟨Nat.zero_le _, Nat.zero_le _⟩) hS (fun _ h => h) (fun r_10 M_10 H locs hP hS hF => ?_)
        refine lv_lmul hx hb dX1_goOn_92 ?_
        refine lv_ladd hx hb dX1_goOn_93 ?_
        refine goV (rSN (rest := []) S hK hP (ctX6_set_ l D cI cJ ad had (19+4*o) (is_L_then ho) x1_2 (((r_8 * (((((12 : Int32) * (gi m2 (19+2*o))).toInt64) - r_5) - r_6)) + (0 : Int64)) + (r_9 * r_10)) _ _ hF) ⟨va_cnB 3 hts ggX1_goOn_X6_set_ rfl rfl rfl (hK.2 _ nw_RX1_51) (hts (.initialized RX6) (by decide +kernel)) hdS_X6_set_ ⟨Nat.le_of_ble_eq_true rfl, Nat.le_of_ble_eq_true rfl⟩, hts (.static yX6_set_) (by decide +kernel), trivial⟩ rfl hl.1 rfl (Nat.le_of_ble_eq_true rfl) dX1_goOn_94 ⟨Nat.zero_le _, Nat.zero_le _⟩) hS (fun _ h => h) (fun M_11 H locs hP hS hF => ?_)
        refine lv_iinc (v := (x1_2 + 1)) (lv' := [(1, .int (x1_2 + 1)), (4, .long (0 : Int64)), (2, .long (((((12 : Int32) * (gi m2 (19+2*o))).toInt64) - r_5) - r_6)), (0, .ref (ad (4+3*o)))]) hx hb dX1_goOn_97 hl (k := 3) rfl rfl (by decide) rfl (fun ls hl => ?_)
        refine lv_goto (tgt := 2) hx hb dX1_goOn_100 (by decide) ?_
        exact hJ_2 _ _ hF _ _ _ hP hS (lv_sub hl [3, 0] rfl)
      · have hF := hF.2 c_7
        refine lv_aload_n hx hb dX1_goOn_33 rfl (lv_at hl 1 rfl) ?_
        refine gF S hK hP i1 (e_L ho) rfl 2 (by decide) k19 f_L_now dX1_goOn_34 ?_
        refine lv_iload_n hx hb dX1_goOn_37 rfl (lv_at hl 2 rfl) ?_
        refine lv_iconst (v := 1) hx hb dX1_goOn_38 (by decide) ?_
        refine lv_isub hx hb dX1_goOn_39 ?_
        refine goL (rSN (rest := []) S hK hP (ctX6_at_ l D cI cJ ad had (18+4*o) (is_L_now ho) (x1_2 - (1 : Int32)) _ _ hF) ⟨va_cnB 2 hts ggX1_goOn_X6_at_ rfl rfl rfl (hK.2 _ nw_RX1_58) (hts (.initialized RX6) (by decide +kernel)) hdS_X6_at_ ⟨Nat.le_of_ble_eq_true rfl, Nat.le_of_ble_eq_true rfl⟩, hts (.static yX6_at_) (by decide +kernel), trivial⟩ rfl hl.1 rfl (Nat.le_of_ble_eq_true rfl) dX1_goOn_40 ⟨Nat.zero_le _, Nat.zero_le _⟩) hS (fun _ h => h) (fun r_12 M_12 H locs hP hS hF => ?_)
        refine lv_aload_n hx hb dX1_goOn_43 rfl (lv_at hl 1 rfl) ?_
        refine lv_iload_n hx hb dX1_goOn_44 rfl (lv_at hl 2 rfl) ?_
        refine lv_iconst (v := 1) hx hb dX1_goOn_45 (by decide) ?_
        refine lv_isub hx hb dX1_goOn_46 ?_
        refine goL (rV (rest := [.long r_12]) S hK hP (ctX1_grows l D cI cJ ad had o ho (x1_2 - (1 : Int32)) _ _ hF) (cwV 1 hts gX1_goOn_X1_grows rfl rfl rfl hdV_X1_grows ⟨Nat.le_of_ble_eq_true rfl, Nat.le_of_ble_eq_true rfl⟩) (e_L ho) rfl rfl hl.1 rfl (Nat.le_of_ble_eq_true rfl) dX1_goOn_47 ⟨Nat.zero_le _, Nat.zero_le _⟩) hS (fun _ h => h) (fun r_13 M_13 H locs hP hS hF => ?_)
        refine lv_lmul hx hb dX1_goOn_50 ?_
        refine lv_goto (tgt := 55) hx hb dX1_goOn_51 (by decide) ?_
        refine lv_lstore (lv' := [(4, .long (r_12 * r_13)), (2, .long (((((12 : Int32) * (gi m2 (19+2*o))).toInt64) - r_5) - r_6)), (0, .ref (ad (4+3*o))), (1, .int x1_2)]) hx hb dX1_goOn_55 hl (by decide) rfl (fun ls hl => ?_)
        refine lv_aload_n hx hb dX1_goOn_57 rfl (lv_at hl 2 rfl) ?_
        refine gF S hK hP i1 (e_L ho) rfl 3 (by decide) k22 f_L_then dX1_goOn_58 ?_
        refine lv_iload_n hx hb dX1_goOn_61 rfl (lv_at hl 3 rfl) ?_
        refine lv_aload_n hx hb dX1_goOn_62 rfl (lv_at hl 2 rfl) ?_
        refine gF S hK hP i1 (e_L ho) rfl 2 (by decide) k19 f_L_now dX1_goOn_63 ?_
        refine lv_iload_n hx hb dX1_goOn_66 rfl (lv_at hl 3 rfl) ?_
        refine goL (rSN (rest := [.int x1_2, .ref (ad (19+4*o))]) S hK hP (ctX6_at_ l D cI cJ ad had (18+4*o) (is_L_now ho) x1_2 _ _ hF) ⟨va_cnB 2 hts ggX1_goOn_X6_at_ rfl rfl rfl (hK.2 _ nw_RX1_58) (hts (.initialized RX6) (by decide +kernel)) hdS_X6_at_ ⟨Nat.le_of_ble_eq_true rfl, Nat.le_of_ble_eq_true rfl⟩, hts (.static yX6_at_) (by decide +kernel), trivial⟩ rfl hl.1 rfl (Nat.le_of_ble_eq_true rfl) dX1_goOn_67 ⟨Nat.zero_le _, Nat.zero_le _⟩) hS (fun _ h => h) (fun r_14 M_14 H locs hP hS hF => ?_)
        refine lv_lload_n hx hb dX1_goOn_70 rfl (lv_at hl 1 rfl) ?_
        refine lv_lmul hx hb dX1_goOn_71 ?_
        refine lv_lload hx hb dX1_goOn_72 (lv_at hl 0 rfl) ?_
        refine lv_ladd hx hb dX1_goOn_74 ?_
        refine lv_aload_n hx hb dX1_goOn_75 rfl (lv_at hl 2 rfl) ?_
        refine gF S hK hP i1 (e_L ho) rfl 2 (by decide) k19 f_L_now dX1_goOn_76 ?_
        refine lv_iload_n hx hb dX1_goOn_79 rfl (lv_at hl 3 rfl) ?_
        refine lv_iconst (v := 1) hx hb dX1_goOn_80 (by decide) ?_
        refine lv_iadd hx hb dX1_goOn_81 ?_
        refine goL (rSN (rest := [.long ((r_14 * (((((12 : Int32) * (gi m2 (19+2*o))).toInt64) - r_5) - r_6)) + (r_12 * r_13)), .int x1_2, .ref (ad (19+4*o))]) S hK hP (ctX6_at_ l D cI cJ ad had (18+4*o) (is_L_now ho) (x1_2 + (1 : Int32)) _ _ hF) ⟨va_cnB 2 hts ggX1_goOn_X6_at_ rfl rfl rfl (hK.2 _ nw_RX1_58) (hts (.initialized RX6) (by decide +kernel)) hdS_X6_at_ ⟨Nat.le_of_ble_eq_true rfl, Nat.le_of_ble_eq_true rfl⟩, hts (.static yX6_at_) (by decide +kernel), trivial⟩ rfl hl.1 rfl (Nat.le_of_ble_eq_true rfl) dX1_goOn_82 ⟨Nat.zero_le _, Nat.zero_le _⟩) hS (fun _ h => h) (fun r_15 M_15 H locs hP hS hF => ?_)
        refine lv_aload_n hx hb dX1_goOn_85 rfl (lv_at hl 2 rfl) ?_
        refine lv_iload_n hx hb dX1_goOn_86 rfl (lv_at hl 3 rfl) ?_
        refine lv_iconst (v := 1) hx hb dX1_goOn_87 (by decide) ?_
        refine lv_iadd hx hb dX1_goOn_88 ?_
        refine goL (rV (rest := [.long r_15, .long ((r_14 * (((((12 : Int32) * (gi m2 (19+2*o))).toInt64) - r_5) - r_6)) + (r_12 * r_13)), .int x1_2, .ref (ad (19+4*o))]) S hK hP (ctX1_shrinks l D cI cJ ad had o ho (x1_2 + (1 : Int32)) _ _ hF) (cwV 1 hts gX1_goOn_X1_shrinks rfl rfl rfl hdV_X1_shrinks ⟨Nat.le_of_ble_eq_true rfl, Nat.le_of_ble_eq_true rfl⟩) (e_L ho) rfl rfl hl.1 rfl (Nat.le_of_ble_eq_true rfl) dX1_goOn_89 ⟨Nat.zero_le _, Nat.zero_le _⟩) hS (fun _ h => h) (fun r_16 M_16 H locs hP hS hF => ?_)
        refine lv_lmul hx hb dX1_goOn_92 ?_
        refine lv_ladd hx hb dX1_goOn_93 ?_
        refine goV (rSN (rest := []) S hK hP (ctX6_set_ l D cI cJ ad had (19+4*o) (is_L_then ho) x1_2 (((r_14 * (((((12 : Int32) * (gi m2 (19+2*o))).toInt64) - r_5) - r_6)) + (r_12 * r_13)) + (r_15 * r_16)) _ _ hF) ⟨va_cnB 3 hts ggX1_goOn_X6_set_ rfl rfl rfl (hK.2 _ nw_RX1_51) (hts (.initialized RX6) (by decide +kernel)) hdS_X6_set_ ⟨Nat.le_of_ble_eq_true rfl, Nat.le_of_ble_eq_true rfl⟩, hts (.static yX6_set_) (by decide +kernel), trivial⟩ rfl hl.1 rfl (Nat.le_of_ble_eq_true rfl) dX1_goOn_94 ⟨Nat.zero_le _, Nat.zero_le _⟩) hS (fun _ h => h) (fun M_17 H locs hP hS hF => ?_)
        refine lv_iinc (v := (x1_2 + 1)) (lv' := [(1, .int (x1_2 + 1)), (4, .long (r_12 * r_13)), (2, .long (((((12 : Int32) * (gi m2 (19+2*o))).toInt64) - r_5) - r_6)), (0, .ref (ad (4+3*o)))]) hx hb dX1_goOn_97 hl (k := 3) rfl rfl (by decide) rfl (fun ls hl => ?_)
        refine lv_goto (tgt := 2) hx hb dX1_goOn_100 (by decide) ?_
        exact hJ_2 _ _ hF _ _ _ hP hS (lv_sub hl [3, 0] rfl)
  exact key_2 _ _ hF _ _ _ hP hS (lv_sub hl [1, 0] rfl)
def bX1_afterMinutes_42 (o : Nat) (a1 : Int32) (a3 : Int32) (a4 : Int32) (Q : Int64 → Mm → Prop) (J_3 : Int32 → Mm → Prop) (J_42 : Int64 → Int32 → Mm → Prop) (x5_42 : Int64) (x7_42 : Int32) (m42 : Mm) : Prop := ((a1 ≤ x7_42 → (wX6_at_ (18+4*o) a3 (fun r_3 M_3 => (wX6_share r_3 x5_42 a4 (fun r_4 M_4 => (Q r_4 M_4)) M_3)) m42)) ∧ (¬ a1 ≤ x7_42 → (wX1_goOn o (fun M_5 => (J_42 (x5_42 * (((12 : Int32) * (gi M_5 (19+2*o))).toInt64)) (x7_42 + 1) M_5)) m42)))
def lX1_afterMinutes_42 (o : Nat) (a1 : Int32) (a3 : Int32) (a4 : Int32) (Q : Int64 → Mm → Prop) (J_3 : Int32 → Mm → Prop) (x5_42 : Int64) (x7_42 : Int32) (m42 : Mm) : Prop := ∀ I : Int64 → Int32 → Mm → Prop, (∀ J : Int64 → Int32 → Mm → Prop, (∀ (x5_42 : Int64) (x7_42 : Int32) (m : Mm), J x5_42 x7_42 m → I x5_42 x7_42 m) → ∀ (x5_42 : Int64) (x7_42 : Int32) (m : Mm), bX1_afterMinutes_42 o a1 a3 a4 Q J_3 J x5_42 x7_42 m → I x5_42 x7_42 m) → I x5_42 x7_42 m42
theorem lX1_afterMinutes_42_mk (o : Nat) (a1 : Int32) (a3 : Int32) (a4 : Int32) (Q : Int64 → Mm → Prop) (J_3 : Int32 → Mm → Prop) (x5_42 : Int64) (x7_42 : Int32) (m42 : Mm) (h : bX1_afterMinutes_42 o a1 a3 a4 Q J_3 (lX1_afterMinutes_42 o a1 a3 a4 Q J_3) x5_42 x7_42 m42) : lX1_afterMinutes_42 o a1 a3 a4 Q J_3 x5_42 x7_42 m42 := fun I hI => hI (lX1_afterMinutes_42 o a1 a3 a4 Q J_3) (fun _ _ _ q => q I hI) _ _ _ h
def bX1_afterMinutes_3 (o : Nat) (a1 : Int32) (a2 : Int32) (a3 : Int32) (a4 : Int32) (Q : Int64 → Mm → Prop) (J_3 : Int32 → Mm → Prop) (x5_3 : Int32) (m3 : Mm) : Prop := (((6 : Int32) ≤ x5_3 → (lX1_afterMinutes_42 o a1 a3 a4 Q J_3 (1 : Int64) (0 : Int32) m3)) ∧ (¬ (6 : Int32) ≤ x5_3 → ((x5_3 = a2 → (wX6_set_ (18+4*o) x5_3 (1 : Int64) (fun M_8 => (J_3 (x5_3 + 1) M_8)) m3)) ∧ (¬ x5_3 = a2 → (wX6_set_ (18+4*o) x5_3 (0 : Int64) (fun M_7 => (J_3 (x5_3 + 1) M_7)) m3)))))
def lX1_afterMinutes_3 (o : Nat) (a1 : Int32) (a2 : Int32) (a3 : Int32) (a4 : Int32) (Q : Int64 → Mm → Prop) (x5_3 : Int32) (m3 : Mm) : Prop := ∀ I : Int32 → Mm → Prop, (∀ J : Int32 → Mm → Prop, (∀ (x5_3 : Int32) (m : Mm), J x5_3 m → I x5_3 m) → ∀ (x5_3 : Int32) (m : Mm), bX1_afterMinutes_3 o a1 a2 a3 a4 Q J x5_3 m → I x5_3 m) → I x5_3 m3
theorem lX1_afterMinutes_3_mk (o : Nat) (a1 : Int32) (a2 : Int32) (a3 : Int32) (a4 : Int32) (Q : Int64 → Mm → Prop) (x5_3 : Int32) (m3 : Mm) (h : bX1_afterMinutes_3 o a1 a2 a3 a4 Q (lX1_afterMinutes_3 o a1 a2 a3 a4 Q) x5_3 m3) : lX1_afterMinutes_3 o a1 a2 a3 a4 Q x5_3 m3 := fun I hI => hI (lX1_afterMinutes_3 o a1 a2 a3 a4 Q) (fun _ _ q => q I hI) _ _ h
def wX1_afterMinutes (o : Nat) (a1 : Int32) (a2 : Int32) (a3 : Int32) (a4 : Int32) (Q : Int64 → Mm → Prop) (M : Mm) : Prop := (lX1_afterMinutes_3 o a1 a2 a3 a4 Q (0 : Int32) M)
set_option maxHeartbeats 4000000 in
set_option maxRecDepth 100000 in
theorem ctX1_afterMinutes (l : Launch) (D : va_G) (cI cJ : ClassId) (ad : Nat → Nat) (had : inj54 ad) (o : Nat) (ho : o < 2) (a1 : Int32) (a2 : Int32) (a3 : Int32) (a4 : Int32) (Q : Int64 → Mm → Prop) (M : Mm) (hF : wX1_afterMinutes o a1 a2 a3 a4 Q M) : Met l yX1_afterMinutes wsX1_afterMinutes ({ frames := 3, cells := 0, slots := 0, locals := 67 } : Room) (PcW D cI cJ ad M [.ref (ad (4+3*o)), .int a1, .int a2, .int a3, .int a4]) (QlW D cI cJ ad Q) 0 0 (Fr ad) := by
  refine entW (y := yX1_afterMinutes) (ret := some .long) (maxL := 8) (plainFor_of_name (by decide)) rfl (Nat.le_of_ble_eq_true rfl) ?_
  intro p e s m args below meth c ls S hK hr hlocks hP hS hl
  have hx := S.1
  have hb := S.2.1
  have hown := S.2.2.2.1
  have hts := S.2.2.2.2
  have i1 : ∀ w ∈ wsX10, w ∈ wsX1_afterMinutes := by decide +kernel
  have k19 := hts (.fieldLink RX1 19 "RopeLine$Lengths" "now" "[J") (by decide +kernel)
  have k32 := hts (.fieldLink RX1 32 "RopeLine$Lengths" "whole" "I") (by decide +kernel)
  have hl : lv_has ls 8 [(0, .ref (ad (4+3*o))), (1, .int a1), (2, .int a2), (3, .int a3), (4, .int a4)] := hl
  unfold wX1_afterMinutes at hF
  refine lv_iconst (v := 0) hx hb dX1_afterMinutes_0 (by decide) ?_
  refine lv_istore (lv' := [(5, .int (0 : Int32)), (0, .ref (ad (4+3*o))), (1, .int a1), (2, .int a2), (3, .int a3), (4, .int a4)]) hx hb dX1_afterMinutes_1 hl (by decide) rfl (fun ls hl => ?_)
  have key_3 : ∀ (x5_3 : Int32) (m3 : Mm), (lX1_afterMinutes_3 o a1 a2 a3 a4 Q x5_3 m3) → Wc p l e ({ frames := 3, cells := 0, slots := 0, locals := 67 } : Room) s m args below meth c D cI cJ ad (MQ below (QlW D cI cJ ad Q) args s 0 0 (Fr ad)) 8 3 [(0, .ref (ad (4+3*o))), (1, .int a1), (2, .int a2), (3, .int a3), (4, .int a4), (5, .int x5_3)] m3 := by
    intro x5_3 m3 hL
    refine hL (fun x5_3 m3 => Wc p l e ({ frames := 3, cells := 0, slots := 0, locals := 67 } : Room) s m args below meth c D cI cJ ad (MQ below (QlW D cI cJ ad Q) args s 0 0 (Fr ad)) 8 3 [(0, .ref (ad (4+3*o))), (1, .int a1), (2, .int a2), (3, .int a3), (4, .int a4), (5, .int x5_3)] m3) ?_
    intro J_3 hJ_3 x5_3 m3 hF H locs ls hP hS hl
    unfold bX1_afterMinutes_3 at hF
    refine lv_iload hx hb dX1_afterMinutes_3 (lv_at hl 5 rfl) ?_
    refine lv_bipush (v := 6) hx hb dX1_afterMinutes_5 (by decide) ?_
    refine lv_icmp_ge (tgt := 36) hx hb dX1_afterMinutes_7 (by decide) (fun c_1 => ?_) (fun c_1 => ?_)
    · have hF := hF.1 c_1
      refine lv_lconst (v := 1) hx hb dX1_afterMinutes_36 (by decide) ?_
      refine lv_lstore (lv' := [(5, .long (1 : Int64)), (0, .ref (ad (4+3*o))), (1, .int a1), (2, .int a2), (3, .int a3), (4, .int a4)]) hx hb dX1_afterMinutes_37 hl (by decide) rfl (fun ls hl => ?_)
      refine lv_iconst (v := 0) hx hb dX1_afterMinutes_39 (by decide) ?_
      refine lv_istore (lv' := [(7, .int (0 : Int32)), (5, .long (1 : Int64)), (0, .ref (ad (4+3*o))), (1, .int a1), (2, .int a2), (3, .int a3), (4, .int a4)]) hx hb dX1_afterMinutes_40 hl (by decide) rfl (fun ls hl => ?_)
      have key_42 : ∀ (x5_42 : Int64) (x7_42 : Int32) (m42 : Mm), (lX1_afterMinutes_42 o a1 a3 a4 Q J_3 x5_42 x7_42 m42) → Wc p l e ({ frames := 3, cells := 0, slots := 0, locals := 67 } : Room) s m args below meth c D cI cJ ad (MQ below (QlW D cI cJ ad Q) args s 0 0 (Fr ad)) 8 42 [(0, .ref (ad (4+3*o))), (1, .int a1), (3, .int a3), (4, .int a4), (5, .long x5_42), (7, .int x7_42)] m42 := by
        intro x5_42 x7_42 m42 hL
        refine hL (fun x5_42 x7_42 m42 => Wc p l e ({ frames := 3, cells := 0, slots := 0, locals := 67 } : Room) s m args below meth c D cI cJ ad (MQ below (QlW D cI cJ ad Q) args s 0 0 (Fr ad)) 8 42 [(0, .ref (ad (4+3*o))), (1, .int a1), (3, .int a3), (4, .int a4), (5, .long x5_42), (7, .int x7_42)] m42) ?_
        intro J_42 hJ_42 x5_42 x7_42 m42 hF H locs ls hP hS hl
        unfold bX1_afterMinutes_42 at hF
        refine lv_iload hx hb dX1_afterMinutes_42 (lv_at hl 5 rfl) ?_
        refine lv_iload_n hx hb dX1_afterMinutes_44 rfl (lv_at hl 1 rfl) ?_
        refine lv_icmp_ge (tgt := 71) hx hb dX1_afterMinutes_45 (by decide) (fun c_2 => ?_) (fun c_2 => ?_)
        · have hF := hF.1 c_2
          refine lv_aload_n hx hb dX1_afterMinutes_71 rfl (lv_at hl 0 rfl) ?_
          refine gF S hK hP i1 (e_L ho) rfl 2 (by decide) k19 f_L_now dX1_afterMinutes_72 ?_
          refine lv_iload_n hx hb dX1_afterMinutes_75 rfl (lv_at hl 2 rfl) ?_
          refine goL (rSN (rest := []) S hK hP (ctX6_at_ l D cI cJ ad had (18+4*o) (is_L_now ho) a3 _ _ hF) ⟨va_cnB 2 hts ggX1_afterMinutes_X6_at_ rfl rfl rfl (hK.2 _ nw_RX1_58) (hts (.initialized RX6) (by decide +kernel)) hdS_X6_at_ ⟨Nat.le_of_ble_eq_true rfl, Nat.le_of_ble_eq_true rfl⟩, hts (.static yX6_at_) (by decide +kernel), trivial⟩ rfl hl.1 rfl (Nat.le_of_ble_eq_true rfl) dX1_afterMinutes_76 ⟨Nat.zero_le _, Nat.zero_le _⟩) hS (fun _ h => h) (fun r_3 M_3 H locs hP hS hF => ?_)
          refine lv_lload hx hb dX1_afterMinutes_79 (lv_at hl 4 rfl) ?_
          refine lv_iload hx hb dX1_afterMinutes_81 (lv_at hl 3 rfl) ?_
          refine goL (rSN (rest := []) S hK hP (ctX6_share l D cI cJ ad had r_3 x5_42 a4 _ _ hF) ⟨va_cnB 3 hts ggX1_afterMinutes_X6_share rfl rfl rfl (hK.2 _ nw_RX1_71) (hts (.initialized RX6) (by decide +kernel)) hdS_X6_share ⟨Nat.le_of_ble_eq_true rfl, Nat.le_of_ble_eq_true rfl⟩, hts (.static yX6_share) (by decide +kernel), trivial⟩ rfl hl.1 rfl (Nat.le_of_ble_eq_true rfl) dX1_afterMinutes_83 ⟨Nat.zero_le _, Nat.zero_le _⟩) hS (fun _ h => h) (fun r_4 M_4 H locs hP hS hF => ?_)
          exact retL S hr hlocks hP hS hF dX1_afterMinutes_86
        · have hF := hF.2 c_2
          refine lv_aload_n hx hb dX1_afterMinutes_48 rfl (lv_at hl 0 rfl) ?_
          refine goV (rV (rest := []) S hK hP (ctX1_goOn l D cI cJ ad had o ho _ _ hF) (cwV 0 hts gX1_afterMinutes_X1_goOn rfl rfl rfl hdV_X1_goOn ⟨Nat.le_of_ble_eq_true rfl, Nat.le_of_ble_eq_true rfl⟩) (e_L ho) rfl rfl hl.1 rfl (Nat.le_of_ble_eq_true rfl) dX1_afterMinutes_49 ⟨Nat.zero_le _, Nat.zero_le _⟩) hS (fun _ h => h) (fun M_5 H locs hP hS hF => ?_)
          refine lv_lload hx hb dX1_afterMinutes_52 (lv_at hl 4 rfl) ?_
          refine lv_bipush (v := 12) hx hb dX1_afterMinutes_54 (by decide) ?_
          refine lv_aload_n hx hb dX1_afterMinutes_56 rfl (lv_at hl 0 rfl) ?_
          refine gF S hK hP i1 (e_L ho) rfl 5 (by decide) k32 f_L_whole dX1_afterMinutes_57 ?_
          refine lv_imul hx hb dX1_afterMinutes_60 ?_
          refine lv_i2l hx hb dX1_afterMinutes_61 rfl ?_
          refine lv_lmul hx hb dX1_afterMinutes_62 ?_
          refine lv_lstore (lv' := [(5, .long (x5_42 * (((12 : Int32) * (gi M_5 (19+2*o))).toInt64))), (0, .ref (ad (4+3*o))), (1, .int a1), (3, .int a3), (4, .int a4), (7, .int x7_42)]) hx hb dX1_afterMinutes_63 hl (by decide) rfl (fun ls hl => ?_)
          refine lv_iinc (v := (x7_42 + 1)) (lv' := [(7, .int (x7_42 + 1)), (5, .long (x5_42 * (((12 : Int32) * (gi M_5 (19+2*o))).toInt64))), (0, .ref (ad (4+3*o))), (1, .int a1), (3, .int a3), (4, .int a4)]) hx hb dX1_afterMinutes_65 hl (k := 5) rfl rfl (by decide) rfl (fun ls hl => ?_)
          refine lv_goto (tgt := 42) hx hb dX1_afterMinutes_68 (by decide) ?_
          exact hJ_42 _ _ _ hF _ _ _ hP hS (lv_sub hl [2, 3, 4, 5, 1, 0] rfl)
      exact key_42 _ _ _ hF _ _ _ hP hS (lv_sub hl [2, 3, 5, 6, 1, 0] rfl)
    · have hF := hF.2 c_1
      refine lv_aload_n hx hb dX1_afterMinutes_10 rfl (lv_at hl 0 rfl) ?_
      refine gF S hK hP i1 (e_L ho) rfl 2 (by decide) k19 f_L_now dX1_afterMinutes_11 ?_
      refine lv_iload hx hb dX1_afterMinutes_14 (lv_at hl 5 rfl) ?_
      refine lv_iload hx hb dX1_afterMinutes_16 (lv_at hl 5 rfl) ?_
      refine lv_iload_n hx hb dX1_afterMinutes_18 rfl (lv_at hl 2 rfl) ?_
      refine lv_icmp_ne (tgt := 26) hx hb dX1_afterMinutes_19 (by decide) (fun c_6 => ?_) (fun c_6 => ?_)
      · have hF := hF.2 c_6
        refine lv_lconst (v := 0) hx hb dX1_afterMinutes_26 (by decide) ?_
        refine goV (rSN (rest := []) S hK hP (ctX6_set_ l D cI cJ ad had (18+4*o) (is_L_now ho) x5_3 (0 : Int64) _ _ hF) ⟨va_cnB 3 hts ggX1_afterMinutes_X6_set_ rfl rfl rfl (hK.2 _ nw_RX1_51) (hts (.initialized RX6) (by decide +kernel)) hdS_X6_set_ ⟨Nat.le_of_ble_eq_true rfl, Nat.le_of_ble_eq_true rfl⟩, hts (.static yX6_set_) (by decide +kernel), trivial⟩ rfl hl.1 rfl (Nat.le_of_ble_eq_true rfl) dX1_afterMinutes_27 ⟨Nat.zero_le _, Nat.zero_le _⟩) hS (fun _ h => h) (fun M_7 H locs hP hS hF => ?_)
        refine lv_iinc (v := (x5_3 + 1)) (lv' := [(5, .int (x5_3 + 1)), (0, .ref (ad (4+3*o))), (1, .int a1), (2, .int a2), (3, .int a3), (4, .int a4)]) hx hb dX1_afterMinutes_30 hl (k := 5) rfl rfl (by decide) rfl (fun ls hl => ?_)
        refine lv_goto (tgt := 3) hx hb dX1_afterMinutes_33 (by decide) ?_
        exact hJ_3 _ _ hF _ _ _ hP hS (lv_sub hl [1, 2, 3, 4, 5, 0] rfl)
      · have hF := hF.1 c_6
        refine lv_lconst (v := 1) hx hb dX1_afterMinutes_22 (by decide) ?_
        refine lv_goto (tgt := 27) hx hb dX1_afterMinutes_23 (by decide) ?_
        refine goV (rSN (rest := []) S hK hP (ctX6_set_ l D cI cJ ad had (18+4*o) (is_L_now ho) x5_3 (1 : Int64) _ _ hF) ⟨va_cnB 3 hts ggX1_afterMinutes_X6_set_ rfl rfl rfl (hK.2 _ nw_RX1_51) (hts (.initialized RX6) (by decide +kernel)) hdS_X6_set_ ⟨Nat.le_of_ble_eq_true rfl, Nat.le_of_ble_eq_true rfl⟩, hts (.static yX6_set_) (by decide +kernel), trivial⟩ rfl hl.1 rfl (Nat.le_of_ble_eq_true rfl) dX1_afterMinutes_27 ⟨Nat.zero_le _, Nat.zero_le _⟩) hS (fun _ h => h) (fun M_8 H locs hP hS hF => ?_)
        refine lv_iinc (v := (x5_3 + 1)) (lv' := [(5, .int (x5_3 + 1)), (0, .ref (ad (4+3*o))), (1, .int a1), (2, .int a2), (3, .int a3), (4, .int a4)]) hx hb dX1_afterMinutes_30 hl (k := 5) rfl rfl (by decide) rfl (fun ls hl => ?_)
        refine lv_goto (tgt := 3) hx hb dX1_afterMinutes_33 (by decide) ?_
        exact hJ_3 _ _ hF _ _ _ hP hS (lv_sub hl [1, 2, 3, 4, 5, 0] rfl)
  exact key_3 _ _ hF _ _ _ hP hS (lv_sub hl [1, 2, 3, 4, 5, 0] rfl)
def bX1_comeBlind_17 (o : Nat) (a2 : Int32) (Q : Mm → Prop) (J_17 : Int32 → Mm → Prop) (x3_17 : Int32) (m17 : Mm) : Prop := (((6 : Int32) ≤ x3_17 → (wX1_weigh o (fun M_4 => (Q M_4)) m17)) ∧ (¬ (6 : Int32) ≤ x3_17 → (((4 : Int32) ≤ x3_17 → (wX6_set (16+4*o) x3_17 (0 : Int32) (fun M_6 => (J_17 (x3_17 + 1) M_6)) m17)) ∧ (¬ (4 : Int32) ≤ x3_17 → (wX6_at 13 (0 : Int32) (fun r_7 M_7 => (wX6_set (16+4*o) x3_17 (a2 * r_7) (fun M_8 => (J_17 (x3_17 + 1) M_8)) M_7)) m17)))))
def lX1_comeBlind_17 (o : Nat) (a2 : Int32) (Q : Mm → Prop) (x3_17 : Int32) (m17 : Mm) : Prop := ∀ I : Int32 → Mm → Prop, (∀ J : Int32 → Mm → Prop, (∀ (x3_17 : Int32) (m : Mm), J x3_17 m → I x3_17 m) → ∀ (x3_17 : Int32) (m : Mm), bX1_comeBlind_17 o a2 Q J x3_17 m → I x3_17 m) → I x3_17 m17
theorem lX1_comeBlind_17_mk (o : Nat) (a2 : Int32) (Q : Mm → Prop) (x3_17 : Int32) (m17 : Mm) (h : bX1_comeBlind_17 o a2 Q (lX1_comeBlind_17 o a2 Q) x3_17 m17) : lX1_comeBlind_17 o a2 Q x3_17 m17 := fun I hI => hI (lX1_comeBlind_17 o a2 Q) (fun _ _ q => q I hI) _ _ h
def wX1_comeBlind (o : Nat) (a2 : Int32) (Q : Mm → Prop) (M : Mm) : Prop := (∀ M_1 : Mm, M_1 = (si M (18+2*o) (gi M 12)) → (∀ M_2 : Mm, M_2 = (si M_1 (19+2*o) (144 : Int32)) → (lX1_comeBlind_17 o a2 Q (0 : Int32) M_2)))
set_option maxHeartbeats 4000000 in
set_option maxRecDepth 100000 in
theorem ctX1_comeBlind (l : Launch) (D : va_G) (cI cJ : ClassId) (ad : Nat → Nat) (had : inj54 ad) (o : Nat) (ho : o < 2) (a2 : Int32) (Q : Mm → Prop) (M : Mm) (hF : wX1_comeBlind o a2 Q M) : Met l yX1_comeBlind wsX1_comeBlind ({ frames := 3, cells := 0, slots := 0, locals := 64 } : Room) (PcW D cI cJ ad M [.ref (ad (4+3*o)), .ref (ad 3), .int a2]) (QvW D cI cJ ad Q) 0 0 (Fr ad) := by
  refine entW (y := yX1_comeBlind) (ret := none) (maxL := 4) (plainFor_of_name (by decide)) rfl (Nat.le_of_ble_eq_true rfl) ?_
  intro p e s m args below meth c ls S hK hr hlocks hP hS hl
  have hx := S.1
  have hb := S.2.1
  have hown := S.2.2.2.1
  have hts := S.2.2.2.2
  have i2 : ∀ w ∈ wsX20, w ∈ wsX1_comeBlind := by decide +kernel
  have i1 : ∀ w ∈ wsX10, w ∈ wsX1_comeBlind := by decide +kernel
  have k31 := hts (.fieldLink RX1 31 "RopeLine$Lengths" "served" "I") (by decide +kernel)
  have k32 := hts (.fieldLink RX1 32 "RopeLine$Lengths" "whole" "I") (by decide +kernel)
  have k9 := hts (.fieldLink RX1 9 "RopeLine$Lengths" "joining" "[I") (by decide +kernel)
  have hl : lv_has ls 4 [(0, .ref (ad (4+3*o))), (1, .ref (ad 3)), (2, .int a2)] := hl
  unfold wX1_comeBlind at hF
  refine lv_aload_n hx hb dX1_comeBlind_0 rfl (lv_at hl 0 rfl) ?_
  refine lv_aload_n hx hb dX1_comeBlind_1 rfl (lv_at hl 1 rfl) ?_
  refine gN S hK hP i2 e_P rfl 4 (by decide) nw_RX1_25 f_P_served dX1_comeBlind_2 ?_
  refine pF S hK had hP hS i1 tyX1_ok nmX1 (e_L ho) rfl 4 (by decide) k31 rfl rfl rfl (Nat.lt_of_lt_of_eq (by decide) len_L.symm) (s_L_served ho) dX1_comeBlind_5 (fun M_1 H locs eM_1 hP hS => ?_)
  have hF := hF M_1 eM_1
  refine lv_aload_n hx hb dX1_comeBlind_8 rfl (lv_at hl 0 rfl) ?_
  refine lv_sipush (v := 144) hx hb dX1_comeBlind_9 (by decide) ?_
  refine pF S hK had hP hS i1 tyX1_ok nmX1 (e_L ho) rfl 5 (by decide) k32 rfl rfl rfl (Nat.lt_of_lt_of_eq (by decide) len_L.symm) (s_L_whole ho) dX1_comeBlind_12 (fun M_2 H locs eM_2 hP hS => ?_)
  have hF := hF M_2 eM_2
  refine lv_iconst (v := 0) hx hb dX1_comeBlind_15 (by decide) ?_
  refine lv_istore_n (lv' := [(3, .int (0 : Int32)), (0, .ref (ad (4+3*o))), (1, .ref (ad 3)), (2, .int a2)]) hx hb dX1_comeBlind_16 rfl hl (by decide) rfl (fun ls hl => ?_)
  have key_17 : ∀ (x3_17 : Int32) (m17 : Mm), (lX1_comeBlind_17 o a2 Q x3_17 m17) → Wc p l e ({ frames := 3, cells := 0, slots := 0, locals := 64 } : Room) s m args below meth c D cI cJ ad (MQ below (QvW D cI cJ ad Q) args s 0 0 (Fr ad)) 4 17 [(0, .ref (ad (4+3*o))), (1, .ref (ad 3)), (2, .int a2), (3, .int x3_17)] m17 := by
    intro x3_17 m17 hL
    refine hL (fun x3_17 m17 => Wc p l e ({ frames := 3, cells := 0, slots := 0, locals := 64 } : Room) s m args below meth c D cI cJ ad (MQ below (QvW D cI cJ ad Q) args s 0 0 (Fr ad)) 4 17 [(0, .ref (ad (4+3*o))), (1, .ref (ad 3)), (2, .int a2), (3, .int x3_17)] m17) ?_
    intro J_17 hJ_17 x3_17 m17 hF H locs ls hP hS hl
    unfold bX1_comeBlind_17 at hF
    refine lv_iload_n hx hb dX1_comeBlind_17 rfl (lv_at hl 3 rfl) ?_
    refine lv_bipush (v := 6) hx hb dX1_comeBlind_18 (by decide) ?_
    refine lv_icmp_ge (tgt := 56) hx hb dX1_comeBlind_20 (by decide) (fun c_3 => ?_) (fun c_3 => ?_)
    · have hF := hF.1 c_3
      refine lv_aload_n hx hb dX1_comeBlind_56 rfl (lv_at hl 0 rfl) ?_
      refine goV (rV (rest := []) S hK hP (ctX1_weigh l D cI cJ ad had o ho _ _ hF) (cwV 0 hts gX1_comeBlind_X1_weigh rfl rfl rfl hdV_X1_weigh ⟨Nat.le_of_ble_eq_true rfl, Nat.le_of_ble_eq_true rfl⟩) (e_L ho) rfl rfl hl.1 rfl (Nat.le_of_ble_eq_true rfl) dX1_comeBlind_57 ⟨Nat.zero_le _, Nat.zero_le _⟩) hS (fun _ h => h) (fun M_4 H locs hP hS hF => ?_)
      exact retV S hr hlocks hP hS hF dX1_comeBlind_60
    · have hF := hF.2 c_3
      refine lv_aload_n hx hb dX1_comeBlind_23 rfl (lv_at hl 0 rfl) ?_
      refine gF S hK hP i1 (e_L ho) rfl 0 (by decide) k9 f_L_joining dX1_comeBlind_24 ?_
      refine lv_iload_n hx hb dX1_comeBlind_27 rfl (lv_at hl 3 rfl) ?_
      refine lv_iload_n hx hb dX1_comeBlind_28 rfl (lv_at hl 3 rfl) ?_
      refine lv_iconst (v := 4) hx hb dX1_comeBlind_29 (by decide) ?_
      refine lv_icmp_ge (tgt := 46) hx hb dX1_comeBlind_30 (by decide) (fun c_5 => ?_) (fun c_5 => ?_)
      · have hF := hF.1 c_5
        refine lv_iconst (v := 0) hx hb dX1_comeBlind_46 (by decide) ?_
        refine goV (rSN (rest := []) S hK hP (ctX6_set l D cI cJ ad had (16+4*o) (is_L_joining ho) x3_17 (0 : Int32) _ _ hF) ⟨va_cnB 3 hts ggX1_comeBlind_X6_set rfl rfl rfl (hK.2 _ nw_RX1_38) (hts (.initialized RX6) (by decide +kernel)) hdS_X6_set ⟨Nat.le_of_ble_eq_true rfl, Nat.le_of_ble_eq_true rfl⟩, hts (.static yX6_set) (by decide +kernel), trivial⟩ rfl hl.1 rfl (Nat.le_of_ble_eq_true rfl) dX1_comeBlind_47 ⟨Nat.zero_le _, Nat.zero_le _⟩) hS (fun _ h => h) (fun M_6 H locs hP hS hF => ?_)
        refine lv_iinc (v := (x3_17 + 1)) (lv' := [(3, .int (x3_17 + 1)), (0, .ref (ad (4+3*o))), (1, .ref (ad 3)), (2, .int a2)]) hx hb dX1_comeBlind_50 hl (k := 3) rfl rfl (by decide) rfl (fun ls hl => ?_)
        refine lv_goto (tgt := 17) hx hb dX1_comeBlind_53 (by decide) ?_
        exact hJ_17 _ _ hF _ _ _ hP hS (lv_sub hl [1, 2, 3, 0] rfl)
      · have hF := hF.2 c_5
        refine lv_iload_n hx hb dX1_comeBlind_33 rfl (lv_at hl 2 rfl) ?_
        refine lv_aload_n hx hb dX1_comeBlind_34 rfl (lv_at hl 1 rfl) ?_
        refine gN S hK hP i2 e_P rfl 0 (by decide) nw_RX1_45 f_P_twelfths dX1_comeBlind_35 ?_
        refine lv_iconst (v := 0) hx hb dX1_comeBlind_38 (by decide) ?_
        refine goI (rSN (rest := [.int a2, .int x3_17, .ref (ad (16+4*o))]) S hK hP (ctX6_at l D cI cJ ad had 13 rfl (0 : Int32) _ _ hF) ⟨va_cnB 2 hts ggX1_comeBlind_X6_at rfl rfl rfl (hK.2 _ nw_RX1_48) (hts (.initialized RX6) (by decide +kernel)) hdS_X6_at ⟨Nat.le_of_ble_eq_true rfl, Nat.le_of_ble_eq_true rfl⟩, hts (.static yX6_at) (by decide +kernel), trivial⟩ rfl hl.1 rfl (Nat.le_of_ble_eq_true rfl) dX1_comeBlind_39 ⟨Nat.zero_le _, Nat.zero_le _⟩) hS (fun _ h => h) (fun r_7 M_7 H locs hP hS hF => ?_)
        refine lv_imul hx hb dX1_comeBlind_42 ?_
        refine lv_goto (tgt := 47) hx hb dX1_comeBlind_43 (by decide) ?_
        refine goV (rSN (rest := []) S hK hP (ctX6_set l D cI cJ ad had (16+4*o) (is_L_joining ho) x3_17 (a2 * r_7) _ _ hF) ⟨va_cnB 3 hts ggX1_comeBlind_X6_set rfl rfl rfl (hK.2 _ nw_RX1_38) (hts (.initialized RX6) (by decide +kernel)) hdS_X6_set ⟨Nat.le_of_ble_eq_true rfl, Nat.le_of_ble_eq_true rfl⟩, hts (.static yX6_set) (by decide +kernel), trivial⟩ rfl hl.1 rfl (Nat.le_of_ble_eq_true rfl) dX1_comeBlind_47 ⟨Nat.zero_le _, Nat.zero_le _⟩) hS (fun _ h => h) (fun M_8 H locs hP hS hF => ?_)
        refine lv_iinc (v := (x3_17 + 1)) (lv' := [(3, .int (x3_17 + 1)), (0, .ref (ad (4+3*o))), (1, .ref (ad 3)), (2, .int a2)]) hx hb dX1_comeBlind_50 hl (k := 3) rfl rfl (by decide) rfl (fun ls hl => ?_)
        refine lv_goto (tgt := 17) hx hb dX1_comeBlind_53 (by decide) ?_
        exact hJ_17 _ _ hF _ _ _ hP hS (lv_sub hl [1, 2, 3, 0] rfl)
  exact key_17 _ _ hF _ _ _ hP hS (lv_sub hl [1, 2, 3, 0] rfl)
