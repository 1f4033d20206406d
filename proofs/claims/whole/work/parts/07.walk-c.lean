def wX6_faulted (a1 : Int32) (Q : Int32 → Mm → Prop) (M : Mm) : Prop := (∀ M_1 : Mm, M_1 = (si M 2 a1) → (Q ((-10 : Int32) - a1) M_1))
set_option maxHeartbeats 4000000 in
set_option maxRecDepth 100000 in
theorem ctX6_faulted (l : Launch) (D : va_G) (cI cJ : ClassId) (ad : Nat → Nat) (had : inj54 ad) (a1 : Int32) (Q : Int32 → Mm → Prop) (M : Mm) (hF : wX6_faulted a1 Q M) : Met l yX6_faulted wsX6_faulted ({ frames := 0, cells := 0, slots := 0, locals := 0 } : Room) (PcW D cI cJ ad M [.ref (ad 0), .int a1]) (QiW D cI cJ ad Q) 0 0 (Fr ad) := by
  refine entW (y := yX6_faulted) (ret := some .int) (maxL := 2) (plainFor_of_name (by decide)) rfl (Nat.le_of_ble_eq_true rfl) ?_
  intro p e s m args below meth c ls S hK hr hlocks hP hS hl
  have hx := S.1
  have hb := S.2.1
  have hown := S.2.2.2.1
  have hts := S.2.2.2.2
  have i6 : ∀ w ∈ wsX60, w ∈ wsX6_faulted := by decide +kernel
  have k55 := hts (.fieldLink RX6 55 "RopeLine" "faultNow" "I") (by decide +kernel)
  have hl : lv_has ls 2 [(0, .ref (ad 0)), (1, .int a1)] := hl
  unfold wX6_faulted at hF
  refine lv_aload_n hx hb dX6_faulted_0 rfl (lv_at hl 0 rfl) ?_
  refine lv_iload_n hx hb dX6_faulted_1 rfl (lv_at hl 1 rfl) ?_
  refine pF S hK had hP hS i6 tyX6_ok nmX6 e_R rfl 8 (by decide) k55 rfl rfl rfl (Nat.lt_of_lt_of_eq (by decide) len_R.symm) s_R_faultNow dX6_faulted_2 (fun M_1 H locs eM_1 hP hS => ?_)
  have hF := hF M_1 eM_1
  refine lv_bipush (v := -10) hx hb dX6_faulted_5 (by decide) ?_
  refine lv_iload_n hx hb dX6_faulted_7 rfl (lv_at hl 1 rfl) ?_
  refine lv_isub hx hb dX6_faulted_8 ?_
  exact retI S hr hlocks hP hS hF dX6_faulted_9
def wX6_place (a1 : Int32) (a2 : Int32) (a3 : Int32) (a4 : Int32) (Q : Int32 → Mm → Prop) (M : Mm) : Prop := (∀ M_1 : Mm, M_1 = (si M 2 (0 : Int32)) → (wX4_has a1 (fun r_2 M_2 => ((r_2 = 0 → (Q (-1 : Int32) M_2)) ∧ (¬ r_2 = 0 → (wX6_isWithin a2 (0 : Int32) (2 : Int32) (fun r_4 M_4 => ((r_4 = 0 → (Q (-2 : Int32) M_4)) ∧ (¬ r_4 = 0 → (wX4_isOfAnotherLane a1 a2 (fun r_6 M_6 => ((r_6 = 0 → (wX4_hasNothing a1 (fun r_8 M_8 => ((r_8 = 0 → ((0 ≤ a4 → (wX4_sizeOf a1 (fun r_11 M_11 => (wX6_isWithin a3 (0 : Int32) r_11 (fun r_12 M_12 => ((r_12 = 0 → (wX6_faulted (3 : Int32) (fun r_14 M_14 => (Q r_14 M_14)) M_12)) ∧ (¬ r_12 = 0 → ((a4 ≤ (r_11 - a3) → (wX5_isTaken a1 a3 a4 (fun r_16 M_16 => ((r_16 = 0 → (Q ((-100 : Int32) - (gi M_16 5)) M_16)) ∧ (¬ r_16 = 0 → (wX2_becomes (fun M_18 => (wX3_empties (fun M_19 => (wX0_forgets (fun M_20 => (Q (gi M_20 14) M_20)) M_19)) M_18)) M_16)))) M_12)) ∧ (¬ a4 ≤ (r_11 - a3) → (wX6_faulted (3 : Int32) (fun r_21 M_21 => (Q r_21 M_21)) M_12)))))) M_11)) M_8)) ∧ (¬ 0 ≤ a4 → (wX6_faulted (4 : Int32) (fun r_22 M_22 => (Q r_22 M_22)) M_8)))) ∧ (¬ r_8 = 0 → (wX6_faulted (1 : Int32) (fun r_23 M_23 => (Q r_23 M_23)) M_8)))) M_6)) ∧ (¬ r_6 = 0 → (wX6_faulted (2 : Int32) (fun r_24 M_24 => (Q r_24 M_24)) M_6)))) M_4)))) M_2)))) M_1))
set_option maxHeartbeats 4000000 in
set_option maxRecDepth 100000 in
theorem ctX6_place (l : Launch) (D : va_G) (cI cJ : ClassId) (ad : Nat → Nat) (had : inj54 ad) (a1 : Int32) (a2 : Int32) (a3 : Int32) (a4 : Int32) (Q : Int32 → Mm → Prop) (M : Mm) (hF : wX6_place a1 a2 a3 a4 Q M) : Met l yX6_place wsX6_place ({ frames := 6, cells := 0, slots := 0, locals := 130 } : Room) (PcW D cI cJ ad M [.ref (ad 0), .int a1, .int a2, .int a3, .int a4]) (QiW D cI cJ ad Q) 0 0 (Fr ad) := by
  refine entW (y := yX6_place) (ret := some .int) (maxL := 6) (plainFor_of_name (by decide)) rfl (Nat.le_of_ble_eq_true rfl) ?_
  intro p e s m args below meth c ls S hK hr hlocks hP hS hl
  have hx := S.1
  have hb := S.2.1
  have hown := S.2.2.2.1
  have hts := S.2.2.2.2
  have i6 : ∀ w ∈ wsX60, w ∈ wsX6_place := by decide +kernel
  have i2 : ∀ w ∈ wsX20, w ∈ wsX6_place := by decide +kernel
  have i5 : ∀ w ∈ wsX50, w ∈ wsX6_place := by decide +kernel
  have k55 := hts (.fieldLink RX6 55 "RopeLine" "faultNow" "I") (by decide +kernel)
  have k12 := hts (.fieldLink RX6 12 "RopeLine" "sheets" "LRopeLine$Sheets;") (by decide +kernel)
  have k23 := hts (.fieldLink RX6 23 "RopeLine" "text" "LRopeLine$Text;") (by decide +kernel)
  have k30 := hts (.fieldLink RX6 30 "RopeLine" "here" "LRopeLine$Place;") (by decide +kernel)
  have k51 := hts (.fieldLink RX6 51 "RopeLine" "queue" "LRopeLine$Queue;") (by decide +kernel)
  have k44 := hts (.fieldLink RX6 44 "RopeLine" "gains" "LRopeLine$Gains;") (by decide +kernel)
  have hl : lv_has ls 6 [(0, .ref (ad 0)), (1, .int a1), (2, .int a2), (3, .int a3), (4, .int a4)] := hl
  unfold wX6_place at hF
  refine lv_aload_n hx hb dX6_place_0 rfl (lv_at hl 0 rfl) ?_
  refine lv_iconst (v := 0) hx hb dX6_place_1 (by decide) ?_
  refine pF S hK had hP hS i6 tyX6_ok nmX6 e_R rfl 8 (by decide) k55 rfl rfl rfl (Nat.lt_of_lt_of_eq (by decide) len_R.symm) s_R_faultNow dX6_place_2 (fun M_1 H locs eM_1 hP hS => ?_)
  have hF := hF M_1 eM_1
  refine lv_aload_n hx hb dX6_place_5 rfl (lv_at hl 0 rfl) ?_
  refine gF S hK hP i6 e_R rfl 0 (by decide) k12 f_R_sheets dX6_place_6 ?_
  refine lv_iload_n hx hb dX6_place_9 rfl (lv_at hl 1 rfl) ?_
  refine goZ (rV (rest := []) S hK hP (ctX4_has l D cI cJ ad had a1 _ _ hF) (cwV 1 hts gX6_place_X4_has rfl rfl rfl hdV_X4_has ⟨Nat.le_of_ble_eq_true rfl, Nat.le_of_ble_eq_true rfl⟩) e_S rfl rfl hl.1 rfl (Nat.le_of_ble_eq_true rfl) dX6_place_10 ⟨Nat.zero_le _, Nat.zero_le _⟩) hS (fun _ h => h) (fun r_2 M_2 H locs hP hS hz_r_2 hF => ?_)
  refine lv_if_ne (tgt := 18) hx hb dX6_place_13 (by decide) (fun c_3 => ?_) (fun c_3 => ?_)
  · have hF := hF.2 c_3
    refine lv_iload_n hx hb dX6_place_18 rfl (lv_at hl 2 rfl) ?_
    refine lv_iconst (v := 0) hx hb dX6_place_19 (by decide) ?_
    refine lv_iconst (v := 2) hx hb dX6_place_20 (by decide) ?_
    refine goZ (rS (rest := []) S hK hP (ctX6_isWithin l D cI cJ ad had a2 (0 : Int32) (2 : Int32) _ _ hF) (va_cwS 3 hts gX6_place_X6_isWithin rfl rfl rfl hdS_X6_isWithin ⟨Nat.le_of_ble_eq_true rfl, Nat.le_of_ble_eq_true rfl⟩) rfl hl.1 rfl (Nat.le_of_ble_eq_true rfl) dX6_place_21 ⟨Nat.zero_le _, Nat.zero_le _⟩) hS (fun _ h => h) (fun r_4 M_4 H locs hP hS hz_r_4 hF => ?_)
    refine lv_if_ne (tgt := 30) hx hb dX6_place_24 (by decide) (fun c_5 => ?_) (fun c_5 => ?_)
    · have hF := hF.2 c_5
      refine lv_aload_n hx hb dX6_place_30 rfl (lv_at hl 0 rfl) ?_
      refine gF S hK hP i6 e_R rfl 0 (by decide) k12 f_R_sheets dX6_place_31 ?_
      refine lv_iload_n hx hb dX6_place_34 rfl (lv_at hl 1 rfl) ?_
      refine lv_iload_n hx hb dX6_place_35 rfl (lv_at hl 2 rfl) ?_
      refine goZ (rV (rest := []) S hK hP (ctX4_isOfAnotherLane l D cI cJ ad had a1 a2 _ _ hF) (cwV 2 hts gX6_place_X4_isOfAnotherLane rfl rfl rfl hdV_X4_isOfAnotherLane ⟨Nat.le_of_ble_eq_true rfl, Nat.le_of_ble_eq_true rfl⟩) e_S rfl rfl hl.1 rfl (Nat.le_of_ble_eq_true rfl) dX6_place_36 ⟨Nat.zero_le _, Nat.zero_le _⟩) hS (fun _ h => h) (fun r_6 M_6 H locs hP hS hz_r_6 hF => ?_)
      refine lv_if_eq (tgt := 48) hx hb dX6_place_39 (by decide) (fun c_7 => ?_) (fun c_7 => ?_)
      · have hF := hF.1 c_7
        refine lv_aload_n hx hb dX6_place_48 rfl (lv_at hl 0 rfl) ?_
        refine gF S hK hP i6 e_R rfl 0 (by decide) k12 f_R_sheets dX6_place_49 ?_
        refine lv_iload_n hx hb dX6_place_52 rfl (lv_at hl 1 rfl) ?_
        refine goZ (rV (rest := []) S hK hP (ctX4_hasNothing l D cI cJ ad had a1 _ _ hF) (cwV 1 hts gX6_place_X4_hasNothing rfl rfl rfl hdV_X4_hasNothing ⟨Nat.le_of_ble_eq_true rfl, Nat.le_of_ble_eq_true rfl⟩) e_S rfl rfl hl.1 rfl (Nat.le_of_ble_eq_true rfl) dX6_place_53 ⟨Nat.zero_le _, Nat.zero_le _⟩) hS (fun _ h => h) (fun r_8 M_8 H locs hP hS hz_r_8 hF => ?_)
        refine lv_if_eq (tgt := 65) hx hb dX6_place_56 (by decide) (fun c_9 => ?_) (fun c_9 => ?_)
        · have hF := hF.1 c_9
          refine lv_iload hx hb dX6_place_65 (lv_at hl 4 rfl) ?_
          refine lv_if_ge (tgt := 76) hx hb dX6_place_67 (by decide) (fun c_10 => ?_) (fun c_10 => ?_)
          · have hF := hF.1 c_10
            refine lv_aload_n hx hb dX6_place_76 rfl (lv_at hl 0 rfl) ?_
            refine gF S hK hP i6 e_R rfl 0 (by decide) k12 f_R_sheets dX6_place_77 ?_
            refine lv_iload_n hx hb dX6_place_80 rfl (lv_at hl 1 rfl) ?_
            refine goI (rV (rest := []) S hK hP (ctX4_sizeOf l D cI cJ ad had a1 _ _ hF) (cwV 1 hts gX6_place_X4_sizeOf rfl rfl rfl hdV_X4_sizeOf ⟨Nat.le_of_ble_eq_true rfl, Nat.le_of_ble_eq_true rfl⟩) e_S rfl rfl hl.1 rfl (Nat.le_of_ble_eq_true rfl) dX6_place_81 ⟨Nat.zero_le _, Nat.zero_le _⟩) hS (fun _ h => h) (fun r_11 M_11 H locs hP hS hF => ?_)
            refine lv_istore (lv' := [(5, .int r_11), (0, .ref (ad 0)), (1, .int a1), (2, .int a2), (3, .int a3), (4, .int a4)]) hx hb dX6_place_84 hl (by decide) rfl (fun ls hl => ?_)
            refine lv_iload_n hx hb dX6_place_86 rfl (lv_at hl 4 rfl) ?_
            refine lv_iconst (v := 0) hx hb dX6_place_87 (by decide) ?_
            refine lv_iload hx hb dX6_place_88 (lv_at hl 0 rfl) ?_
            refine goZ (rS (rest := []) S hK hP (ctX6_isWithin l D cI cJ ad had a3 (0 : Int32) r_11 _ _ hF) (va_cwS 3 hts gX6_place_X6_isWithin rfl rfl rfl hdS_X6_isWithin ⟨Nat.le_of_ble_eq_true rfl, Nat.le_of_ble_eq_true rfl⟩) rfl hl.1 rfl (Nat.le_of_ble_eq_true rfl) dX6_place_90 ⟨Nat.zero_le _, Nat.zero_le _⟩) hS (fun _ h => h) (fun r_12 M_12 H locs hP hS hz_r_12 hF => ?_)
            refine lv_if_eq (tgt := 105) hx hb dX6_place_93 (by decide) (fun c_13 => ?_) (fun c_13 => ?_)
            · have hF := hF.1 c_13
              refine lv_aload_n hx hb dX6_place_105 rfl (lv_at hl 1 rfl) ?_
              refine lv_iconst (v := 3) hx hb dX6_place_106 (by decide) ?_
              refine goI (rV (rest := []) S hK hP (ctX6_faulted l D cI cJ ad had (3 : Int32) _ _ hF) (cwV 1 hts gX6_place_X6_faulted rfl rfl rfl hdV_X6_faulted ⟨Nat.le_of_ble_eq_true rfl, Nat.le_of_ble_eq_true rfl⟩) e_R rfl rfl hl.1 rfl (Nat.le_of_ble_eq_true rfl) dX6_place_107 ⟨Nat.zero_le _, Nat.zero_le _⟩) hS (fun _ h => h) (fun r_14 M_14 H locs hP hS hF => ?_)
              exact retI S hr hlocks hP hS hF dX6_place_110
            · have hF := hF.2 c_13
              refine lv_iload hx hb dX6_place_96 (lv_at hl 5 rfl) ?_
              refine lv_iload hx hb dX6_place_98 (lv_at hl 0 rfl) ?_
              refine lv_iload_n hx hb dX6_place_100 rfl (lv_at hl 4 rfl) ?_
              refine lv_isub hx hb dX6_place_101 ?_
              refine lv_icmp_le (tgt := 111) hx hb dX6_place_102 (by decide) (fun c_15 => ?_) (fun c_15 => ?_)
              · have hF := hF.1 c_15
                refine lv_aload_n hx hb dX6_place_111 rfl (lv_at hl 1 rfl) ?_
                refine gF S hK hP i6 e_R rfl 1 (by decide) k23 f_R_text dX6_place_112 ?_
                refine lv_iload_n hx hb dX6_place_115 rfl (lv_at hl 2 rfl) ?_
                refine lv_iload_n hx hb dX6_place_116 rfl (lv_at hl 4 rfl) ?_
                refine lv_iload hx hb dX6_place_117 (lv_at hl 5 rfl) ?_
                refine goZ (rV (rest := []) S hK hP (ctX5_isTaken l D cI cJ ad had a1 a3 a4 _ _ hF) (cwV 3 hts gX6_place_X5_isTaken rfl rfl rfl hdV_X5_isTaken ⟨Nat.le_of_ble_eq_true rfl, Nat.le_of_ble_eq_true rfl⟩) e_T rfl rfl hl.1 rfl (Nat.le_of_ble_eq_true rfl) dX6_place_119 ⟨Nat.zero_le _, Nat.zero_le _⟩) hS (fun _ h => h) (fun r_16 M_16 H locs hP hS hz_r_16 hF => ?_)
                refine lv_if_ne (tgt := 136) hx hb dX6_place_122 (by decide) (fun c_17 => ?_) (fun c_17 => ?_)
                · have hF := hF.2 c_17
                  refine lv_aload_n hx hb dX6_place_136 rfl (lv_at hl 1 rfl) ?_
                  refine gF S hK hP i6 e_R rfl 2 (by decide) k30 f_R_here dX6_place_137 ?_
                  refine lv_aload_n hx hb dX6_place_140 rfl (lv_at hl 1 rfl) ?_
                  refine gF S hK hP i6 e_R rfl 1 (by decide) k23 f_R_text dX6_place_141 ?_
                  refine goV (rV (rest := []) S hK hP (ctX2_becomes l D cI cJ ad had  _ _ hF) (cwV 1 hts gX6_place_X2_becomes rfl rfl rfl hdV_X2_becomes ⟨Nat.le_of_ble_eq_true rfl, Nat.le_of_ble_eq_true rfl⟩) e_P rfl rfl hl.1 rfl (Nat.le_of_ble_eq_true rfl) dX6_place_144 ⟨Nat.zero_le _, Nat.zero_le _⟩) hS (fun _ h => h) (fun M_18 H locs hP hS hF => ?_)
                  refine lv_aload_n hx hb dX6_place_147 rfl (lv_at hl 1 rfl) ?_
                  refine gF S hK hP i6 e_R rfl 5 (by decide) k51 f_R_queue dX6_place_148 ?_
                  refine goV (rV (rest := []) S hK hP (ctX3_empties l D cI cJ ad had  _ _ hF) (cwV 0 hts gX6_place_X3_empties rfl rfl rfl hdV_X3_empties ⟨Nat.le_of_ble_eq_true rfl, Nat.le_of_ble_eq_true rfl⟩) e_Q rfl rfl hl.1 rfl (Nat.le_of_ble_eq_true rfl) dX6_place_151 ⟨Nat.zero_le _, Nat.zero_le _⟩) hS (fun _ h => h) (fun M_19 H locs hP hS hF => ?_)
                  refine lv_aload_n hx hb dX6_place_154 rfl (lv_at hl 1 rfl) ?_
                  refine gF S hK hP i6 e_R rfl 4 (by decide) k44 f_R_gains dX6_place_155 ?_
                  refine goV (rV (rest := []) S hK hP (ctX0_forgets l D cI cJ ad had  _ _ hF) (cwV 0 hts gX6_place_X0_forgets rfl rfl rfl hdV_X0_forgets ⟨Nat.le_of_ble_eq_true rfl, Nat.le_of_ble_eq_true rfl⟩) e_G rfl rfl hl.1 rfl (Nat.le_of_ble_eq_true rfl) dX6_place_158 ⟨Nat.zero_le _, Nat.zero_le _⟩) hS (fun _ h => h) (fun M_20 H locs hP hS hF => ?_)
                  refine lv_aload_n hx hb dX6_place_161 rfl (lv_at hl 1 rfl) ?_
                  refine gF S hK hP i6 e_R rfl 2 (by decide) k30 f_R_here dX6_place_162 ?_
                  refine gN S hK hP i2 e_P rfl 6 (by decide) nw_RX6_97 f_P_sorts dX6_place_165 ?_
                  exact retI S hr hlocks hP hS hF dX6_place_168
                · have hF := hF.1 c_17
                  refine lv_bipush (v := -100) hx hb dX6_place_125 (by decide) ?_
                  refine lv_aload_n hx hb dX6_place_127 rfl (lv_at hl 1 rfl) ?_
                  refine gF S hK hP i6 e_R rfl 1 (by decide) k23 f_R_text dX6_place_128 ?_
                  refine gN S hK hP i5 e_T rfl 5 (by decide) nw_RX6_84 f_T_next dX6_place_131 ?_
                  refine lv_isub hx hb dX6_place_134 ?_
                  exact retI S hr hlocks hP hS hF dX6_place_135
              · have hF := hF.2 c_15
                refine lv_aload_n hx hb dX6_place_105 rfl (lv_at hl 1 rfl) ?_
                refine lv_iconst (v := 3) hx hb dX6_place_106 (by decide) ?_
                refine goI (rV (rest := []) S hK hP (ctX6_faulted l D cI cJ ad had (3 : Int32) _ _ hF) (cwV 1 hts gX6_place_X6_faulted rfl rfl rfl hdV_X6_faulted ⟨Nat.le_of_ble_eq_true rfl, Nat.le_of_ble_eq_true rfl⟩) e_R rfl rfl hl.1 rfl (Nat.le_of_ble_eq_true rfl) dX6_place_107 ⟨Nat.zero_le _, Nat.zero_le _⟩) hS (fun _ h => h) (fun r_21 M_21 H locs hP hS hF => ?_)
                exact retI S hr hlocks hP hS hF dX6_place_110
          · have hF := hF.2 c_10
            refine lv_aload_n hx hb dX6_place_70 rfl (lv_at hl 0 rfl) ?_
            refine lv_iconst (v := 4) hx hb dX6_place_71 (by decide) ?_
            refine goI (rV (rest := []) S hK hP (ctX6_faulted l D cI cJ ad had (4 : Int32) _ _ hF) (cwV 1 hts gX6_place_X6_faulted rfl rfl rfl hdV_X6_faulted ⟨Nat.le_of_ble_eq_true rfl, Nat.le_of_ble_eq_true rfl⟩) e_R rfl rfl hl.1 rfl (Nat.le_of_ble_eq_true rfl) dX6_place_72 ⟨Nat.zero_le _, Nat.zero_le _⟩) hS (fun _ h => h) (fun r_22 M_22 H locs hP hS hF => ?_)
            exact retI S hr hlocks hP hS hF dX6_place_75
        · have hF := hF.2 c_9
          refine lv_aload_n hx hb dX6_place_59 rfl (lv_at hl 0 rfl) ?_
          refine lv_iconst (v := 1) hx hb dX6_place_60 (by decide) ?_
          refine goI (rV (rest := []) S hK hP (ctX6_faulted l D cI cJ ad had (1 : Int32) _ _ hF) (cwV 1 hts gX6_place_X6_faulted rfl rfl rfl hdV_X6_faulted ⟨Nat.le_of_ble_eq_true rfl, Nat.le_of_ble_eq_true rfl⟩) e_R rfl rfl hl.1 rfl (Nat.le_of_ble_eq_true rfl) dX6_place_61 ⟨Nat.zero_le _, Nat.zero_le _⟩) hS (fun _ h => h) (fun r_23 M_23 H locs hP hS hF => ?_)
          exact retI S hr hlocks hP hS hF dX6_place_64
      · have hF := hF.2 c_7
        refine lv_aload_n hx hb dX6_place_42 rfl (lv_at hl 0 rfl) ?_
        refine lv_iconst (v := 2) hx hb dX6_place_43 (by decide) ?_
        refine goI (rV (rest := []) S hK hP (ctX6_faulted l D cI cJ ad had (2 : Int32) _ _ hF) (cwV 1 hts gX6_place_X6_faulted rfl rfl rfl hdV_X6_faulted ⟨Nat.le_of_ble_eq_true rfl, Nat.le_of_ble_eq_true rfl⟩) e_R rfl rfl hl.1 rfl (Nat.le_of_ble_eq_true rfl) dX6_place_44 ⟨Nat.zero_le _, Nat.zero_le _⟩) hS (fun _ h => h) (fun r_24 M_24 H locs hP hS hF => ?_)
        exact retI S hr hlocks hP hS hF dX6_place_47
    · have hF := hF.1 c_5
      refine lv_bipush (v := -2) hx hb dX6_place_27 (by decide) ?_
      exact retI S hr hlocks hP hS hF dX6_place_29
  · have hF := hF.1 c_3
    refine lv_iconst (v := -1) hx hb dX6_place_16 (by decide) ?_
    exact retI S hr hlocks hP hS hF dX6_place_17
def wX6_about (a1 : Int32) (Q : Int32 → Mm → Prop) (M : Mm) : Prop := (wX6_isWithin a1 (0 : Int32) (5 : Int32) (fun r_1 M_1 => ((r_1 = 0 → (Q (-2 : Int32) M_1)) ∧ (¬ r_1 = 0 → (((gi M_1 11) = 0 → (Q (-3 : Int32) M_1)) ∧ (¬ (gi M_1 11) = 0 → ((a1 = 0 → (Q (gi M_1 12) M_1)) ∧ (¬ a1 = 0 → ((a1 = 1 → (Q (gi M_1 13) M_1)) ∧ (¬ a1 = 1 → ((a1 = 2 → (wX2_twelfthsTogether (fun r_7 M_7 => (Q r_7 M_7)) M_1)) ∧ (¬ a1 = 2 → ((a1 = 3 → (Q (gi M_1 15) M_1)) ∧ (¬ a1 = 3 → ((a1 = 4 → (Q (gi M_1 16) M_1)) ∧ (¬ a1 = 4 → (Q (gi M_1 17) M_1)))))))))))))))) M)
set_option maxHeartbeats 4000000 in
set_option maxRecDepth 100000 in
theorem ctX6_about (l : Launch) (D : va_G) (cI cJ : ClassId) (ad : Nat → Nat) (had : inj54 ad) (a1 : Int32) (Q : Int32 → Mm → Prop) (M : Mm) (hF : wX6_about a1 Q M) : Met l yX6_about wsX6_about ({ frames := 2, cells := 0, slots := 0, locals := 43 } : Room) (PcW D cI cJ ad M [.ref (ad 0), .int a1]) (QiW D cI cJ ad Q) 0 0 (Fr ad) := by
  refine entW (y := yX6_about) (ret := some .int) (maxL := 2) (plainFor_of_name (by decide)) rfl (Nat.le_of_ble_eq_true rfl) ?_
  intro p e s m args below meth c ls S hK hr hlocks hP hS hl
  have hx := S.1
  have hb := S.2.1
  have hown := S.2.2.2.1
  have hts := S.2.2.2.2
  have i6 : ∀ w ∈ wsX60, w ∈ wsX6_about := by decide +kernel
  have i2 : ∀ w ∈ wsX20, w ∈ wsX6_about := by decide +kernel
  have k30 := hts (.fieldLink RX6 30 "RopeLine" "here" "LRopeLine$Place;") (by decide +kernel)
  have hl : lv_has ls 2 [(0, .ref (ad 0)), (1, .int a1)] := hl
  unfold wX6_about at hF
  refine lv_iload_n hx hb dX6_about_0 rfl (lv_at hl 1 rfl) ?_
  refine lv_iconst (v := 0) hx hb dX6_about_1 (by decide) ?_
  refine lv_iconst (v := 5) hx hb dX6_about_2 (by decide) ?_
  refine goZ (rS (rest := []) S hK hP (ctX6_isWithin l D cI cJ ad had a1 (0 : Int32) (5 : Int32) _ _ hF) (va_cwS 3 hts gX6_about_X6_isWithin rfl rfl rfl hdS_X6_isWithin ⟨Nat.le_of_ble_eq_true rfl, Nat.le_of_ble_eq_true rfl⟩) rfl hl.1 rfl (Nat.le_of_ble_eq_true rfl) dX6_about_3 ⟨Nat.zero_le _, Nat.zero_le _⟩) hS (fun _ h => h) (fun r_1 M_1 H locs hP hS hz_r_1 hF => ?_)
  refine lv_if_ne (tgt := 12) hx hb dX6_about_6 (by decide) (fun c_2 => ?_) (fun c_2 => ?_)
  · have hF := hF.2 c_2
    refine lv_aload_n hx hb dX6_about_12 rfl (lv_at hl 0 rfl) ?_
    refine gF S hK hP i6 e_R rfl 2 (by decide) k30 f_R_here dX6_about_13 ?_
    refine gN S hK hP i2 e_P rfl 3 (by decide) nw_RX6_100 f_P_isTold dX6_about_16 ?_
    refine lv_if_ne (tgt := 25) hx hb dX6_about_19 (by decide) (fun c_3 => ?_) (fun c_3 => ?_)
    · have hF := hF.2 c_3
      refine lv_iload_n hx hb dX6_about_25 rfl (lv_at hl 1 rfl) ?_
      by_cases c_4 : a1 = 0
      · have hF := hF.1 c_4
        refine lv_tableIn (off := 34) (tgt := 60) hx hb dX6_about_26 (by rw [c_4]; decide) (by rw [c_4]; decide) (by rw [c_4]; rfl) (by decide) ?_
        refine lv_aload_n hx hb dX6_about_60 rfl (lv_at hl 0 rfl) ?_
        refine gF S hK hP i6 e_R rfl 2 (by decide) k30 f_R_here dX6_about_61 ?_
        refine gN S hK hP i2 e_P rfl 4 (by decide) nw_RX6_104 f_P_served dX6_about_64 ?_
        exact retI S hr hlocks hP hS hF dX6_about_67
      · have hF := hF.2 c_4
        by_cases c_5 : a1 = 1
        · have hF := hF.1 c_5
          refine lv_tableIn (off := 42) (tgt := 68) hx hb dX6_about_26 (by rw [c_5]; decide) (by rw [c_5]; decide) (by rw [c_5]; rfl) (by decide) ?_
          refine lv_aload_n hx hb dX6_about_68 rfl (lv_at hl 0 rfl) ?_
          refine gF S hK hP i6 e_R rfl 2 (by decide) k30 f_R_here dX6_about_69 ?_
          refine gN S hK hP i2 e_P rfl 5 (by decide) nw_RX6_107 f_P_cost dX6_about_72 ?_
          exact retI S hr hlocks hP hS hF dX6_about_75
        · have hF := hF.2 c_5
          by_cases c_6 : a1 = 2
          · have hF := hF.1 c_6
            refine lv_tableIn (off := 50) (tgt := 76) hx hb dX6_about_26 (by rw [c_6]; decide) (by rw [c_6]; decide) (by rw [c_6]; rfl) (by decide) ?_
            refine lv_aload_n hx hb dX6_about_76 rfl (lv_at hl 0 rfl) ?_
            refine gF S hK hP i6 e_R rfl 2 (by decide) k30 f_R_here dX6_about_77 ?_
            refine goI (rV (rest := []) S hK hP (ctX2_twelfthsTogether l D cI cJ ad had  _ _ hF) (cwV 0 hts gX6_about_X2_twelfthsTogether rfl rfl rfl hdV_X2_twelfthsTogether ⟨Nat.le_of_ble_eq_true rfl, Nat.le_of_ble_eq_true rfl⟩) e_P rfl rfl hl.1 rfl (Nat.le_of_ble_eq_true rfl) dX6_about_80 ⟨Nat.zero_le _, Nat.zero_le _⟩) hS (fun _ h => h) (fun r_7 M_7 H locs hP hS hF => ?_)
            exact retI S hr hlocks hP hS hF dX6_about_83
          · have hF := hF.2 c_6
            by_cases c_8 : a1 = 3
            · have hF := hF.1 c_8
              refine lv_tableIn (off := 58) (tgt := 84) hx hb dX6_about_26 (by rw [c_8]; decide) (by rw [c_8]; decide) (by rw [c_8]; rfl) (by decide) ?_
              refine lv_aload_n hx hb dX6_about_84 rfl (lv_at hl 0 rfl) ?_
              refine gF S hK hP i6 e_R rfl 2 (by decide) k30 f_R_here dX6_about_85 ?_
              refine gN S hK hP i2 e_P rfl 7 (by decide) nw_RX6_114 f_P_toll dX6_about_88 ?_
              exact retI S hr hlocks hP hS hF dX6_about_91
            · have hF := hF.2 c_8
              by_cases c_9 : a1 = 4
              · have hF := hF.1 c_9
                refine lv_tableIn (off := 66) (tgt := 92) hx hb dX6_about_26 (by rw [c_9]; decide) (by rw [c_9]; decide) (by rw [c_9]; rfl) (by decide) ?_
                refine lv_aload_n hx hb dX6_about_92 rfl (lv_at hl 0 rfl) ?_
                refine gF S hK hP i6 e_R rfl 2 (by decide) k30 f_R_here dX6_about_93 ?_
                refine gN S hK hP i2 e_P rfl 8 (by decide) nw_RX6_117 f_P_step dX6_about_96 ?_
                exact retI S hr hlocks hP hS hF dX6_about_99
              · have hF := hF.2 c_9
                refine lv_tableOut (tgt := 100) hx hb dX6_about_26 (by have q0 := lv_neT c_4 (k := 0) (a := 0) (by decide); have q1 := lv_neT c_5 (k := 1) (a := 1) (by decide); have q2 := lv_neT c_6 (k := 2) (a := 2) (by decide); have q3 := lv_neT c_8 (k := 3) (a := 3) (by decide); have q4 := lv_neT c_9 (k := 4) (a := 4) (by decide); omega) (by decide) ?_
                refine lv_aload_n hx hb dX6_about_100 rfl (lv_at hl 0 rfl) ?_
                refine gF S hK hP i6 e_R rfl 2 (by decide) k30 f_R_here dX6_about_101 ?_
                refine gN S hK hP i2 e_P rfl 9 (by decide) nw_RX6_120 f_P_lie dX6_about_104 ?_
                exact retI S hr hlocks hP hS hF dX6_about_107
    · have hF := hF.1 c_3
      refine lv_bipush (v := -3) hx hb dX6_about_22 (by decide) ?_
      exact retI S hr hlocks hP hS hF dX6_about_24
  · have hF := hF.1 c_2
    refine lv_bipush (v := -2) hx hb dX6_about_9 (by decide) ?_
    exact retI S hr hlocks hP hS hF dX6_about_11
def wX6_ofSort (a1 : Int32) (a2 : Int32) (Q : Int32 → Mm → Prop) (M : Mm) : Prop := (wX2_has a1 (fun r_1 M_1 => ((r_1 = 0 → (Q (-1 : Int32) M_1)) ∧ (¬ r_1 = 0 → ((a2 = 0 → (wX6_at 13 a1 (fun r_4 M_4 => (Q r_4 M_4)) M_1)) ∧ (¬ a2 = 0 → ((a2 = 1 → (wX6_at 14 a1 (fun r_6 M_6 => (Q r_6 M_6)) M_1)) ∧ (¬ a2 = 1 → ((a2 = 2 → (wX6_at 15 a1 (fun r_8 M_8 => (Q r_8 M_8)) M_1)) ∧ (¬ a2 = 2 → ((a2 = 3 → (wX2_hisBar a1 (fun r_10 M_10 => (Q r_10 M_10)) M_1)) ∧ (¬ a2 = 3 → (Q (-2 : Int32) M_1)))))))))))) M)
set_option maxHeartbeats 4000000 in
set_option maxRecDepth 100000 in
theorem ctX6_ofSort (l : Launch) (D : va_G) (cI cJ : ClassId) (ad : Nat → Nat) (had : inj54 ad) (a1 : Int32) (a2 : Int32) (Q : Int32 → Mm → Prop) (M : Mm) (hF : wX6_ofSort a1 a2 Q M) : Met l yX6_ofSort wsX6_ofSort ({ frames := 3, cells := 0, slots := 0, locals := 66 } : Room) (PcW D cI cJ ad M [.ref (ad 0), .int a1, .int a2]) (QiW D cI cJ ad Q) 0 0 (Fr ad) := by
  refine entW (y := yX6_ofSort) (ret := some .int) (maxL := 3) (plainFor_of_name (by decide)) rfl (Nat.le_of_ble_eq_true rfl) ?_
  intro p e s m args below meth c ls S hK hr hlocks hP hS hl
  have hx := S.1
  have hb := S.2.1
  have hown := S.2.2.2.1
  have hts := S.2.2.2.2
  have i6 : ∀ w ∈ wsX60, w ∈ wsX6_ofSort := by decide +kernel
  have i2 : ∀ w ∈ wsX20, w ∈ wsX6_ofSort := by decide +kernel
  have k30 := hts (.fieldLink RX6 30 "RopeLine" "here" "LRopeLine$Place;") (by decide +kernel)
  have hl : lv_has ls 3 [(0, .ref (ad 0)), (1, .int a1), (2, .int a2)] := hl
  unfold wX6_ofSort at hF
  refine lv_aload_n hx hb dX6_ofSort_0 rfl (lv_at hl 0 rfl) ?_
  refine gF S hK hP i6 e_R rfl 2 (by decide) k30 f_R_here dX6_ofSort_1 ?_
  refine lv_iload_n hx hb dX6_ofSort_4 rfl (lv_at hl 1 rfl) ?_
  refine goZ (rV (rest := []) S hK hP (ctX2_has l D cI cJ ad had a1 _ _ hF) (cwV 1 hts gX6_ofSort_X2_has rfl rfl rfl hdV_X2_has ⟨Nat.le_of_ble_eq_true rfl, Nat.le_of_ble_eq_true rfl⟩) e_P rfl rfl hl.1 rfl (Nat.le_of_ble_eq_true rfl) dX6_ofSort_5 ⟨Nat.zero_le _, Nat.zero_le _⟩) hS (fun _ h => h) (fun r_1 M_1 H locs hP hS hz_r_1 hF => ?_)
  refine lv_if_ne (tgt := 13) hx hb dX6_ofSort_8 (by decide) (fun c_2 => ?_) (fun c_2 => ?_)
  · have hF := hF.2 c_2
    refine lv_iload_n hx hb dX6_ofSort_13 rfl (lv_at hl 2 rfl) ?_
    by_cases c_3 : a2 = 0
    · have hF := hF.1 c_3
      refine lv_tableIn (off := 30) (tgt := 44) hx hb dX6_ofSort_14 (by rw [c_3]; decide) (by rw [c_3]; decide) (by rw [c_3]; rfl) (by decide) ?_
      refine lv_aload_n hx hb dX6_ofSort_44 rfl (lv_at hl 0 rfl) ?_
      refine gF S hK hP i6 e_R rfl 2 (by decide) k30 f_R_here dX6_ofSort_45 ?_
      refine gN S hK hP i2 e_P rfl 0 (by decide) nw_RX6_124 f_P_twelfths dX6_ofSort_48 ?_
      refine lv_iload_n hx hb dX6_ofSort_51 rfl (lv_at hl 1 rfl) ?_
      refine goI (rS (rest := []) S hK hP (ctX6_at l D cI cJ ad had 13 rfl a1 _ _ hF) (va_cwS 2 hts gX6_ofSort_X6_at rfl rfl rfl hdS_X6_at ⟨Nat.le_of_ble_eq_true rfl, Nat.le_of_ble_eq_true rfl⟩) rfl hl.1 rfl (Nat.le_of_ble_eq_true rfl) dX6_ofSort_52 ⟨Nat.zero_le _, Nat.zero_le _⟩) hS (fun _ h => h) (fun r_4 M_4 H locs hP hS hF => ?_)
      exact retI S hr hlocks hP hS hF dX6_ofSort_55
    · have hF := hF.2 c_3
      by_cases c_5 : a2 = 1
      · have hF := hF.1 c_5
        refine lv_tableIn (off := 42) (tgt := 56) hx hb dX6_ofSort_14 (by rw [c_5]; decide) (by rw [c_5]; decide) (by rw [c_5]; rfl) (by decide) ?_
        refine lv_aload_n hx hb dX6_ofSort_56 rfl (lv_at hl 0 rfl) ?_
        refine gF S hK hP i6 e_R rfl 2 (by decide) k30 f_R_here dX6_ofSort_57 ?_
        refine gN S hK hP i2 e_P rfl 1 (by decide) nw_RX6_132 f_P_worths dX6_ofSort_60 ?_
        refine lv_iload_n hx hb dX6_ofSort_63 rfl (lv_at hl 1 rfl) ?_
        refine goI (rS (rest := []) S hK hP (ctX6_at l D cI cJ ad had 14 rfl a1 _ _ hF) (va_cwS 2 hts gX6_ofSort_X6_at rfl rfl rfl hdS_X6_at ⟨Nat.le_of_ble_eq_true rfl, Nat.le_of_ble_eq_true rfl⟩) rfl hl.1 rfl (Nat.le_of_ble_eq_true rfl) dX6_ofSort_64 ⟨Nat.zero_le _, Nat.zero_le _⟩) hS (fun _ h => h) (fun r_6 M_6 H locs hP hS hF => ?_)
        exact retI S hr hlocks hP hS hF dX6_ofSort_67
      · have hF := hF.2 c_5
        by_cases c_7 : a2 = 2
        · have hF := hF.1 c_7
          refine lv_tableIn (off := 54) (tgt := 68) hx hb dX6_ofSort_14 (by rw [c_7]; decide) (by rw [c_7]; decide) (by rw [c_7]; rfl) (by decide) ?_
          refine lv_aload_n hx hb dX6_ofSort_68 rfl (lv_at hl 0 rfl) ?_
          refine gF S hK hP i6 e_R rfl 2 (by decide) k30 f_R_here dX6_ofSort_69 ?_
          refine gN S hK hP i2 e_P rfl 2 (by decide) nw_RX6_135 f_P_bars dX6_ofSort_72 ?_
          refine lv_iload_n hx hb dX6_ofSort_75 rfl (lv_at hl 1 rfl) ?_
          refine goI (rS (rest := []) S hK hP (ctX6_at l D cI cJ ad had 15 rfl a1 _ _ hF) (va_cwS 2 hts gX6_ofSort_X6_at rfl rfl rfl hdS_X6_at ⟨Nat.le_of_ble_eq_true rfl, Nat.le_of_ble_eq_true rfl⟩) rfl hl.1 rfl (Nat.le_of_ble_eq_true rfl) dX6_ofSort_76 ⟨Nat.zero_le _, Nat.zero_le _⟩) hS (fun _ h => h) (fun r_8 M_8 H locs hP hS hF => ?_)
          exact retI S hr hlocks hP hS hF dX6_ofSort_79
        · have hF := hF.2 c_7
          by_cases c_9 : a2 = 3
          · have hF := hF.1 c_9
            refine lv_tableIn (off := 66) (tgt := 80) hx hb dX6_ofSort_14 (by rw [c_9]; decide) (by rw [c_9]; decide) (by rw [c_9]; rfl) (by decide) ?_
            refine lv_aload_n hx hb dX6_ofSort_80 rfl (lv_at hl 0 rfl) ?_
            refine gF S hK hP i6 e_R rfl 2 (by decide) k30 f_R_here dX6_ofSort_81 ?_
            refine lv_iload_n hx hb dX6_ofSort_84 rfl (lv_at hl 1 rfl) ?_
            refine goI (rV (rest := []) S hK hP (ctX2_hisBar l D cI cJ ad had a1 _ _ hF) (cwV 1 hts gX6_ofSort_X2_hisBar rfl rfl rfl hdV_X2_hisBar ⟨Nat.le_of_ble_eq_true rfl, Nat.le_of_ble_eq_true rfl⟩) e_P rfl rfl hl.1 rfl (Nat.le_of_ble_eq_true rfl) dX6_ofSort_85 ⟨Nat.zero_le _, Nat.zero_le _⟩) hS (fun _ h => h) (fun r_10 M_10 H locs hP hS hF => ?_)
            exact retI S hr hlocks hP hS hF dX6_ofSort_88
          · have hF := hF.2 c_9
            refine lv_tableOut (tgt := 89) hx hb dX6_ofSort_14 (by have q0 := lv_neT c_3 (k := 0) (a := 0) (by decide); have q1 := lv_neT c_5 (k := 1) (a := 1) (by decide); have q2 := lv_neT c_7 (k := 2) (a := 2) (by decide); have q3 := lv_neT c_9 (k := 3) (a := 3) (by decide); omega) (by decide) ?_
            refine lv_bipush (v := -2) hx hb dX6_ofSort_89 (by decide) ?_
            exact retI S hr hlocks hP hS hF dX6_ofSort_91
  · have hF := hF.1 c_2
    refine lv_iconst (v := -1) hx hb dX6_ofSort_11 (by decide) ?_
    exact retI S hr hlocks hP hS hF dX6_ofSort_12
def wX6_bar (a1 : Int32) (a2 : Int32) (Q : Int32 → Mm → Prop) (M : Mm) : Prop := (wX2_has a1 (fun r_1 M_1 => ((r_1 = 0 → (Q (-1 : Int32) M_1)) ∧ (¬ r_1 = 0 → (wX6_isWithin a2 (0 : Int32) (5 : Int32) (fun r_3 M_3 => ((r_3 = 0 → (Q (-2 : Int32) M_3)) ∧ (¬ r_3 = 0 → (wX6_at 15 a1 (fun r_5 M_5 => (wX6_set 15 a1 a2 (fun M_6 => (Q r_5 M_6)) M_5)) M_3)))) M_1)))) M)
set_option maxHeartbeats 4000000 in
set_option maxRecDepth 100000 in
theorem ctX6_bar (l : Launch) (D : va_G) (cI cJ : ClassId) (ad : Nat → Nat) (had : inj54 ad) (a1 : Int32) (a2 : Int32) (Q : Int32 → Mm → Prop) (M : Mm) (hF : wX6_bar a1 a2 Q M) : Met l yX6_bar wsX6_bar ({ frames := 2, cells := 0, slots := 0, locals := 43 } : Room) (PcW D cI cJ ad M [.ref (ad 0), .int a1, .int a2]) (QiW D cI cJ ad Q) 0 0 (Fr ad) := by
  refine entW (y := yX6_bar) (ret := some .int) (maxL := 4) (plainFor_of_name (by decide)) rfl (Nat.le_of_ble_eq_true rfl) ?_
  intro p e s m args below meth c ls S hK hr hlocks hP hS hl
  have hx := S.1
  have hb := S.2.1
  have hown := S.2.2.2.1
  have hts := S.2.2.2.2
  have i6 : ∀ w ∈ wsX60, w ∈ wsX6_bar := by decide +kernel
  have i2 : ∀ w ∈ wsX20, w ∈ wsX6_bar := by decide +kernel
  have k30 := hts (.fieldLink RX6 30 "RopeLine" "here" "LRopeLine$Place;") (by decide +kernel)
  have hl : lv_has ls 4 [(0, .ref (ad 0)), (1, .int a1), (2, .int a2)] := hl
  unfold wX6_bar at hF
  refine lv_aload_n hx hb dX6_bar_0 rfl (lv_at hl 0 rfl) ?_
  refine gF S hK hP i6 e_R rfl 2 (by decide) k30 f_R_here dX6_bar_1 ?_
  refine lv_iload_n hx hb dX6_bar_4 rfl (lv_at hl 1 rfl) ?_
  refine goZ (rV (rest := []) S hK hP (ctX2_has l D cI cJ ad had a1 _ _ hF) (cwV 1 hts gX6_bar_X2_has rfl rfl rfl hdV_X2_has ⟨Nat.le_of_ble_eq_true rfl, Nat.le_of_ble_eq_true rfl⟩) e_P rfl rfl hl.1 rfl (Nat.le_of_ble_eq_true rfl) dX6_bar_5 ⟨Nat.zero_le _, Nat.zero_le _⟩) hS (fun _ h => h) (fun r_1 M_1 H locs hP hS hz_r_1 hF => ?_)
  refine lv_if_ne (tgt := 13) hx hb dX6_bar_8 (by decide) (fun c_2 => ?_) (fun c_2 => ?_)
  · have hF := hF.2 c_2
    refine lv_iload_n hx hb dX6_bar_13 rfl (lv_at hl 2 rfl) ?_
    refine lv_iconst (v := 0) hx hb dX6_bar_14 (by decide) ?_
    refine lv_iconst (v := 5) hx hb dX6_bar_15 (by decide) ?_
    refine goZ (rS (rest := []) S hK hP (ctX6_isWithin l D cI cJ ad had a2 (0 : Int32) (5 : Int32) _ _ hF) (va_cwS 3 hts gX6_bar_X6_isWithin rfl rfl rfl hdS_X6_isWithin ⟨Nat.le_of_ble_eq_true rfl, Nat.le_of_ble_eq_true rfl⟩) rfl hl.1 rfl (Nat.le_of_ble_eq_true rfl) dX6_bar_16 ⟨Nat.zero_le _, Nat.zero_le _⟩) hS (fun _ h => h) (fun r_3 M_3 H locs hP hS hz_r_3 hF => ?_)
    refine lv_if_ne (tgt := 25) hx hb dX6_bar_19 (by decide) (fun c_4 => ?_) (fun c_4 => ?_)
    · have hF := hF.2 c_4
      refine lv_aload_n hx hb dX6_bar_25 rfl (lv_at hl 0 rfl) ?_
      refine gF S hK hP i6 e_R rfl 2 (by decide) k30 f_R_here dX6_bar_26 ?_
      refine gN S hK hP i2 e_P rfl 2 (by decide) nw_RX6_135 f_P_bars dX6_bar_29 ?_
      refine lv_iload_n hx hb dX6_bar_32 rfl (lv_at hl 1 rfl) ?_
      refine goI (rS (rest := []) S hK hP (ctX6_at l D cI cJ ad had 15 rfl a1 _ _ hF) (va_cwS 2 hts gX6_bar_X6_at rfl rfl rfl hdS_X6_at ⟨Nat.le_of_ble_eq_true rfl, Nat.le_of_ble_eq_true rfl⟩) rfl hl.1 rfl (Nat.le_of_ble_eq_true rfl) dX6_bar_33 ⟨Nat.zero_le _, Nat.zero_le _⟩) hS (fun _ h => h) (fun r_5 M_5 H locs hP hS hF => ?_)
      refine lv_istore_n (lv' := [(3, .int r_5), (0, .ref (ad 0)), (1, .int a1), (2, .int a2)]) hx hb dX6_bar_36 rfl hl (by decide) rfl (fun ls hl => ?_)
      refine lv_aload_n hx hb dX6_bar_37 rfl (lv_at hl 1 rfl) ?_
      refine gF S hK hP i6 e_R rfl 2 (by decide) k30 f_R_here dX6_bar_38 ?_
      refine gN S hK hP i2 e_P rfl 2 (by decide) nw_RX6_135 f_P_bars dX6_bar_41 ?_
      refine lv_iload_n hx hb dX6_bar_44 rfl (lv_at hl 2 rfl) ?_
      refine lv_iload_n hx hb dX6_bar_45 rfl (lv_at hl 3 rfl) ?_
      refine goV (rS (rest := []) S hK hP (ctX6_set l D cI cJ ad had 15 rfl a1 a2 _ _ hF) (va_cwS 3 hts gX6_bar_X6_set rfl rfl rfl hdS_X6_set ⟨Nat.le_of_ble_eq_true rfl, Nat.le_of_ble_eq_true rfl⟩) rfl hl.1 rfl (Nat.le_of_ble_eq_true rfl) dX6_bar_46 ⟨Nat.zero_le _, Nat.zero_le _⟩) hS (fun _ h => h) (fun M_6 H locs hP hS hF => ?_)
      refine lv_iload_n hx hb dX6_bar_49 rfl (lv_at hl 0 rfl) ?_
      exact retI S hr hlocks hP hS hF dX6_bar_50
    · have hF := hF.1 c_4
      refine lv_bipush (v := -2) hx hb dX6_bar_22 (by decide) ?_
      exact retI S hr hlocks hP hS hF dX6_bar_24
  · have hF := hF.1 c_2
    refine lv_iconst (v := -1) hx hb dX6_bar_11 (by decide) ?_
    exact retI S hr hlocks hP hS hF dX6_bar_12
def wX6_toll (a1 : Int32) (Q : Int32 → Mm → Prop) (M : Mm) : Prop := (wX6_isWithin a1 (0 : Int32) (999 : Int32) (fun r_1 M_1 => ((r_1 = 0 → (Q (-2 : Int32) M_1)) ∧ (¬ r_1 = 0 → (((gi M_1 11) = 0 → (Q (-3 : Int32) M_1)) ∧ (¬ (gi M_1 11) = 0 → (∀ M_4 : Mm, M_4 = (si M_1 15 a1) → (Q (gi M_1 15) M_4))))))) M)
set_option maxHeartbeats 4000000 in
set_option maxRecDepth 100000 in
theorem ctX6_toll (l : Launch) (D : va_G) (cI cJ : ClassId) (ad : Nat → Nat) (had : inj54 ad) (a1 : Int32) (Q : Int32 → Mm → Prop) (M : Mm) (hF : wX6_toll a1 Q M) : Met l yX6_toll wsX6_toll ({ frames := 1, cells := 0, slots := 0, locals := 22 } : Room) (PcW D cI cJ ad M [.ref (ad 0), .int a1]) (QiW D cI cJ ad Q) 0 0 (Fr ad) := by
  refine entW (y := yX6_toll) (ret := some .int) (maxL := 3) (plainFor_of_name (by decide)) rfl (Nat.le_of_ble_eq_true rfl) ?_
  intro p e s m args below meth c ls S hK hr hlocks hP hS hl
  have hx := S.1
  have hb := S.2.1
  have hown := S.2.2.2.1
  have hts := S.2.2.2.2
  have i6 : ∀ w ∈ wsX60, w ∈ wsX6_toll := by decide +kernel
  have i2 : ∀ w ∈ wsX20, w ∈ wsX6_toll := by decide +kernel
  have k30 := hts (.fieldLink RX6 30 "RopeLine" "here" "LRopeLine$Place;") (by decide +kernel)
  have hl : lv_has ls 3 [(0, .ref (ad 0)), (1, .int a1)] := hl
  unfold wX6_toll at hF
  refine lv_iload_n hx hb dX6_toll_0 rfl (lv_at hl 1 rfl) ?_
  refine lv_iconst (v := 0) hx hb dX6_toll_1 (by decide) ?_
  refine lv_sipush (v := 999) hx hb dX6_toll_2 (by decide) ?_
  refine goZ (rS (rest := []) S hK hP (ctX6_isWithin l D cI cJ ad had a1 (0 : Int32) (999 : Int32) _ _ hF) (va_cwS 3 hts gX6_toll_X6_isWithin rfl rfl rfl hdS_X6_isWithin ⟨Nat.le_of_ble_eq_true rfl, Nat.le_of_ble_eq_true rfl⟩) rfl hl.1 rfl (Nat.le_of_ble_eq_true rfl) dX6_toll_5 ⟨Nat.zero_le _, Nat.zero_le _⟩) hS (fun _ h => h) (fun r_1 M_1 H locs hP hS hz_r_1 hF => ?_)
  refine lv_if_ne (tgt := 14) hx hb dX6_toll_8 (by decide) (fun c_2 => ?_) (fun c_2 => ?_)
  · have hF := hF.2 c_2
    refine lv_aload_n hx hb dX6_toll_14 rfl (lv_at hl 0 rfl) ?_
    refine gF S hK hP i6 e_R rfl 2 (by decide) k30 f_R_here dX6_toll_15 ?_
    refine gN S hK hP i2 e_P rfl 3 (by decide) nw_RX6_100 f_P_isTold dX6_toll_18 ?_
    refine lv_if_ne (tgt := 27) hx hb dX6_toll_21 (by decide) (fun c_3 => ?_) (fun c_3 => ?_)
    · have hF := hF.2 c_3
      refine lv_aload_n hx hb dX6_toll_27 rfl (lv_at hl 0 rfl) ?_
      refine gF S hK hP i6 e_R rfl 2 (by decide) k30 f_R_here dX6_toll_28 ?_
      refine gN S hK hP i2 e_P rfl 7 (by decide) nw_RX6_114 f_P_toll dX6_toll_31 ?_
      refine lv_istore_n (lv' := [(2, .int (gi M_1 15)), (0, .ref (ad 0)), (1, .int a1)]) hx hb dX6_toll_34 rfl hl (by decide) rfl (fun ls hl => ?_)
      refine lv_aload_n hx hb dX6_toll_35 rfl (lv_at hl 1 rfl) ?_
      refine gF S hK hP i6 e_R rfl 2 (by decide) k30 f_R_here dX6_toll_36 ?_
      refine lv_iload_n hx hb dX6_toll_39 rfl (lv_at hl 2 rfl) ?_
      refine pN S hK had hP hS i2 tyX2_ok nmX2 e_P rfl 7 (by decide) nw_RX6_114 rfl rfl rfl (Nat.lt_of_lt_of_eq (by decide) len_P.symm) s_P_toll dX6_toll_40 (fun M_4 H locs eM_4 hP hS => ?_)
      have hF := hF M_4 eM_4
      refine lv_iload_n hx hb dX6_toll_43 rfl (lv_at hl 0 rfl) ?_
      exact retI S hr hlocks hP hS hF dX6_toll_44
    · have hF := hF.1 c_3
      refine lv_bipush (v := -3) hx hb dX6_toll_24 (by decide) ?_
      exact retI S hr hlocks hP hS hF dX6_toll_26
  · have hF := hF.1 c_2
    refine lv_bipush (v := -2) hx hb dX6_toll_11 (by decide) ?_
    exact retI S hr hlocks hP hS hF dX6_toll_13
def wX6_board (a1 : Int32) (a2 : Int32) (Q : Int32 → Mm → Prop) (M : Mm) : Prop := (wX6_isWithin a1 (0 : Int32) (20 : Int32) (fun r_1 M_1 => ((r_1 = 0 → (Q (-2 : Int32) M_1)) ∧ (¬ r_1 = 0 → (wX6_isWithin a2 (-20 : Int32) (20 : Int32) (fun r_3 M_3 => ((r_3 = 0 → (Q (-2 : Int32) M_3)) ∧ (¬ r_3 = 0 → (((gi M_3 11) = 0 → (Q (-3 : Int32) M_3)) ∧ (¬ (gi M_3 11) = 0 → ((a1 = 0 → (((gi M_3 16) = a1 → (((gi M_3 17) = (0 : Int32) → (Q (0 : Int32) M_3)) ∧ (¬ (gi M_3 17) = (0 : Int32) → (∀ M_17 : Mm, M_17 = (si M_3 16 a1) → (∀ M_18 : Mm, M_18 = (si M_17 17 (0 : Int32)) → (Q (1 : Int32) M_18)))))) ∧ (¬ (gi M_3 16) = a1 → (∀ M_14 : Mm, M_14 = (si M_3 16 a1) → (∀ M_15 : Mm, M_15 = (si M_14 17 (0 : Int32)) → (Q (1 : Int32) M_15)))))) ∧ (¬ a1 = 0 → (((gi M_3 16) = a1 → (((gi M_3 17) = a2 → (Q (0 : Int32) M_3)) ∧ (¬ (gi M_3 17) = a2 → (∀ M_11 : Mm, M_11 = (si M_3 16 a1) → (∀ M_12 : Mm, M_12 = (si M_11 17 a2) → (Q (1 : Int32) M_12)))))) ∧ (¬ (gi M_3 16) = a1 → (∀ M_8 : Mm, M_8 = (si M_3 16 a1) → (∀ M_9 : Mm, M_9 = (si M_8 17 a2) → (Q (1 : Int32) M_9)))))))))))) M_1)))) M)
set_option maxHeartbeats 4000000 in
set_option maxRecDepth 100000 in
theorem ctX6_board (l : Launch) (D : va_G) (cI cJ : ClassId) (ad : Nat → Nat) (had : inj54 ad) (a1 : Int32) (a2 : Int32) (Q : Int32 → Mm → Prop) (M : Mm) (hF : wX6_board a1 a2 Q M) : Met l yX6_board wsX6_board ({ frames := 1, cells := 0, slots := 0, locals := 22 } : Room) (PcW D cI cJ ad M [.ref (ad 0), .int a1, .int a2]) (QiW D cI cJ ad Q) 0 0 (Fr ad) := by
  refine entW (y := yX6_board) (ret := some .int) (maxL := 4) (plainFor_of_name (by decide)) rfl (Nat.le_of_ble_eq_true rfl) ?_
  intro p e s m args below meth c ls S hK hr hlocks hP hS hl
  have hx := S.1
  have hb := S.2.1
  have hown := S.2.2.2.1
  have hts := S.2.2.2.2
  have i6 : ∀ w ∈ wsX60, w ∈ wsX6_board := by decide +kernel
  have i2 : ∀ w ∈ wsX20, w ∈ wsX6_board := by decide +kernel
  have k30 := hts (.fieldLink RX6 30 "RopeLine" "here" "LRopeLine$Place;") (by decide +kernel)
  have hl : lv_has ls 4 [(0, .ref (ad 0)), (1, .int a1), (2, .int a2)] := hl
  unfold wX6_board at hF
  refine lv_iload_n hx hb dX6_board_0 rfl (lv_at hl 1 rfl) ?_
  refine lv_iconst (v := 0) hx hb dX6_board_1 (by decide) ?_
  refine lv_bipush (v := 20) hx hb dX6_board_2 (by decide) ?_
  refine goZ (rS (rest := []) S hK hP (ctX6_isWithin l D cI cJ ad had a1 (0 : Int32) (20 : Int32) _ _ hF) (va_cwS 3 hts gX6_board_X6_isWithin rfl rfl rfl hdS_X6_isWithin ⟨Nat.le_of_ble_eq_true rfl, Nat.le_of_ble_eq_true rfl⟩) rfl hl.1 rfl (Nat.le_of_ble_eq_true rfl) dX6_board_4 ⟨Nat.zero_le _, Nat.zero_le _⟩) hS (fun _ h => h) (fun r_1 M_1 H locs hP hS hz_r_1 hF => ?_)
  refine lv_if_eq (tgt := 21) hx hb dX6_board_7 (by decide) (fun c_2 => ?_) (fun c_2 => ?_)
  · have hF := hF.1 c_2
    refine lv_bipush (v := -2) hx hb dX6_board_21 (by decide) ?_
    exact retI S hr hlocks hP hS hF dX6_board_23
  · have hF := hF.2 c_2
    refine lv_iload_n hx hb dX6_board_10 rfl (lv_at hl 2 rfl) ?_
    refine lv_bipush (v := -20) hx hb dX6_board_11 (by decide) ?_
    refine lv_bipush (v := 20) hx hb dX6_board_13 (by decide) ?_
    refine goZ (rS (rest := []) S hK hP (ctX6_isWithin l D cI cJ ad had a2 (-20 : Int32) (20 : Int32) _ _ hF) (va_cwS 3 hts gX6_board_X6_isWithin rfl rfl rfl hdS_X6_isWithin ⟨Nat.le_of_ble_eq_true rfl, Nat.le_of_ble_eq_true rfl⟩) rfl hl.1 rfl (Nat.le_of_ble_eq_true rfl) dX6_board_15 ⟨Nat.zero_le _, Nat.zero_le _⟩) hS (fun _ h => h) (fun r_3 M_3 H locs hP hS hz_r_3 hF => ?_)
    refine lv_if_ne (tgt := 24) hx hb dX6_board_18 (by decide) (fun c_4 => ?_) (fun c_4 => ?_)
    · have hF := hF.2 c_4
      refine lv_aload_n hx hb dX6_board_24 rfl (lv_at hl 0 rfl) ?_
      refine gF S hK hP i6 e_R rfl 2 (by decide) k30 f_R_here dX6_board_25 ?_
      refine gN S hK hP i2 e_P rfl 3 (by decide) nw_RX6_100 f_P_isTold dX6_board_28 ?_
      refine lv_if_ne (tgt := 37) hx hb dX6_board_31 (by decide) (fun c_5 => ?_) (fun c_5 => ?_)
      · have hF := hF.2 c_5
        refine lv_iload_n hx hb dX6_board_37 rfl (lv_at hl 1 rfl) ?_
        refine lv_if_ne (tgt := 45) hx hb dX6_board_38 (by decide) (fun c_6 => ?_) (fun c_6 => ?_)
        · have hF := hF.2 c_6
          refine lv_iload_n hx hb dX6_board_45 rfl (lv_at hl 2 rfl) ?_
          refine lv_istore_n (lv' := [(3, .int a2), (0, .ref (ad 0)), (1, .int a1), (2, .int a2)]) hx hb dX6_board_46 rfl hl (by decide) rfl (fun ls hl => ?_)
          refine lv_aload_n hx hb dX6_board_47 rfl (lv_at hl 1 rfl) ?_
          refine gF S hK hP i6 e_R rfl 2 (by decide) k30 f_R_here dX6_board_48 ?_
          refine gN S hK hP i2 e_P rfl 8 (by decide) nw_RX6_117 f_P_step dX6_board_51 ?_
          refine lv_iload_n hx hb dX6_board_54 rfl (lv_at hl 2 rfl) ?_
          refine lv_icmp_ne (tgt := 71) hx hb dX6_board_55 (by decide) (fun c_7 => ?_) (fun c_7 => ?_)
          · have hF := hF.2 c_7
            refine lv_aload_n hx hb dX6_board_71 rfl (lv_at hl 1 rfl) ?_
            refine gF S hK hP i6 e_R rfl 2 (by decide) k30 f_R_here dX6_board_72 ?_
            refine lv_iload_n hx hb dX6_board_75 rfl (lv_at hl 2 rfl) ?_
            refine pN S hK had hP hS i2 tyX2_ok nmX2 e_P rfl 8 (by decide) nw_RX6_117 rfl rfl rfl (Nat.lt_of_lt_of_eq (by decide) len_P.symm) s_P_step dX6_board_76 (fun M_8 H locs eM_8 hP hS => ?_)
            have hF := hF M_8 eM_8
            refine lv_aload_n hx hb dX6_board_79 rfl (lv_at hl 1 rfl) ?_
            refine gF S hK hP i6 e_R rfl 2 (by decide) k30 f_R_here dX6_board_80 ?_
            refine lv_iload_n hx hb dX6_board_83 rfl (lv_at hl 0 rfl) ?_
            refine pN S hK had hP hS i2 tyX2_ok nmX2 e_P rfl 9 (by decide) nw_RX6_120 rfl rfl rfl (Nat.lt_of_lt_of_eq (by decide) len_P.symm) s_P_lie dX6_board_84 (fun M_9 H locs eM_9 hP hS => ?_)
            have hF := hF M_9 eM_9
            refine lv_iconst (v := 1) hx hb dX6_board_87 (by decide) ?_
            exact retI S hr hlocks hP hS hF dX6_board_88
          · have hF := hF.1 c_7
            refine lv_aload_n hx hb dX6_board_58 rfl (lv_at hl 1 rfl) ?_
            refine gF S hK hP i6 e_R rfl 2 (by decide) k30 f_R_here dX6_board_59 ?_
            refine gN S hK hP i2 e_P rfl 9 (by decide) nw_RX6_120 f_P_lie dX6_board_62 ?_
            refine lv_iload_n hx hb dX6_board_65 rfl (lv_at hl 0 rfl) ?_
            refine lv_icmp_ne (tgt := 71) hx hb dX6_board_66 (by decide) (fun c_10 => ?_) (fun c_10 => ?_)
            · have hF := hF.2 c_10
              refine lv_aload_n hx hb dX6_board_71 rfl (lv_at hl 1 rfl) ?_
              refine gF S hK hP i6 e_R rfl 2 (by decide) k30 f_R_here dX6_board_72 ?_
              refine lv_iload_n hx hb dX6_board_75 rfl (lv_at hl 2 rfl) ?_
              refine pN S hK had hP hS i2 tyX2_ok nmX2 e_P rfl 8 (by decide) nw_RX6_117 rfl rfl rfl (Nat.lt_of_lt_of_eq (by decide) len_P.symm) s_P_step dX6_board_76 (fun M_11 H locs eM_11 hP hS => ?_)
              have hF := hF M_11 eM_11
              refine lv_aload_n hx hb dX6_board_79 rfl (lv_at hl 1 rfl) ?_
              refine gF S hK hP i6 e_R rfl 2 (by decide) k30 f_R_here dX6_board_80 ?_
              refine lv_iload_n hx hb dX6_board_83 rfl (lv_at hl 0 rfl) ?_
              refine pN S hK had hP hS i2 tyX2_ok nmX2 e_P rfl 9 (by decide) nw_RX6_120 rfl rfl rfl (Nat.lt_of_lt_of_eq (by decide) len_P.symm) s_P_lie dX6_board_84 (fun M_12 H locs eM_12 hP hS => ?_)
              have hF := hF M_12 eM_12
              refine lv_iconst (v := 1) hx hb dX6_board_87 (by decide) ?_
              exact retI S hr hlocks hP hS hF dX6_board_88
            · have hF := hF.1 c_10
              refine lv_iconst (v := 0) hx hb dX6_board_69 (by decide) ?_
              exact retI S hr hlocks hP hS hF dX6_board_70
        · have hF := hF.1 c_6
          refine lv_iconst (v := 0) hx hb dX6_board_41 (by decide) ?_
          refine lv_goto (tgt := 46) hx hb dX6_board_42 (by decide) ?_
          refine lv_istore_n (lv' := [(3, .int (0 : Int32)), (0, .ref (ad 0)), (1, .int a1), (2, .int a2)]) hx hb dX6_board_46 rfl hl (by decide) rfl (fun ls hl => ?_)
          refine lv_aload_n hx hb dX6_board_47 rfl (lv_at hl 1 rfl) ?_
          refine gF S hK hP i6 e_R rfl 2 (by decide) k30 f_R_here dX6_board_48 ?_
          refine gN S hK hP i2 e_P rfl 8 (by decide) nw_RX6_117 f_P_step dX6_board_51 ?_
          refine lv_iload_n hx hb dX6_board_54 rfl (lv_at hl 2 rfl) ?_
          refine lv_icmp_ne (tgt := 71) hx hb dX6_board_55 (by decide) (fun c_13 => ?_) (fun c_13 => ?_)
          · have hF := hF.2 c_13
            refine lv_aload_n hx hb dX6_board_71 rfl (lv_at hl 1 rfl) ?_
            refine gF S hK hP i6 e_R rfl 2 (by decide) k30 f_R_here dX6_board_72 ?_
            refine lv_iload_n hx hb dX6_board_75 rfl (lv_at hl 2 rfl) ?_
            refine pN S hK had hP hS i2 tyX2_ok nmX2 e_P rfl 8 (by decide) nw_RX6_117 rfl rfl rfl (Nat.lt_of_lt_of_eq (by decide) len_P.symm) s_P_step dX6_board_76 (fun M_14 H locs eM_14 hP hS => ?_)
            have hF := hF M_14 eM_14
            refine lv_aload_n hx hb dX6_board_79 rfl (lv_at hl 1 rfl) ?_
            refine gF S hK hP i6 e_R rfl 2 (by decide) k30 f_R_here dX6_board_80 ?_
            refine lv_iload_n hx hb dX6_board_83 rfl (lv_at hl 0 rfl) ?_
            refine pN S hK had hP hS i2 tyX2_ok nmX2 e_P rfl 9 (by decide) nw_RX6_120 rfl rfl rfl (Nat.lt_of_lt_of_eq (by decide) len_P.symm) s_P_lie dX6_board_84 (fun M_15 H locs eM_15 hP hS => ?_)
            have hF := hF M_15 eM_15
            refine lv_iconst (v := 1) hx hb dX6_board_87 (by decide) ?_
            exact retI S hr hlocks hP hS hF dX6_board_88
          · have hF := hF.1 c_13
            refine lv_aload_n hx hb dX6_board_58 rfl (lv_at hl 1 rfl) ?_
            refine gF S hK hP i6 e_R rfl 2 (by decide) k30 f_R_here dX6_board_59 ?_
            refine gN S hK hP i2 e_P rfl 9 (by decide) nw_RX6_120 f_P_lie dX6_board_62 ?_
            refine lv_iload_n hx hb dX6_board_65 rfl (lv_at hl 0 rfl) ?_
            refine lv_icmp_ne (tgt := 71) hx hb dX6_board_66 (by decide) (fun c_16 => ?_) (fun c_16 => ?_)
            · have hF := hF.2 c_16
              refine lv_aload_n hx hb dX6_board_71 rfl (lv_at hl 1 rfl) ?_
              refine gF S hK hP i6 e_R rfl 2 (by decide) k30 f_R_here dX6_board_72 ?_
              refine lv_iload_n hx hb dX6_board_75 rfl (lv_at hl 2 rfl) ?_
              refine pN S hK had hP hS i2 tyX2_ok nmX2 e_P rfl 8 (by decide) nw_RX6_117 rfl rfl rfl (Nat.lt_of_lt_of_eq (by decide) len_P.symm) s_P_step dX6_board_76 (fun M_17 H locs eM_17 hP hS => ?_)
              have hF := hF M_17 eM_17
              refine lv_aload_n hx hb dX6_board_79 rfl (lv_at hl 1 rfl) ?_
              refine gF S hK hP i6 e_R rfl 2 (by decide) k30 f_R_here dX6_board_80 ?_
              refine lv_iload_n hx hb dX6_board_83 rfl (lv_at hl 0 rfl) ?_
              refine pN S hK had hP hS i2 tyX2_ok nmX2 e_P rfl 9 (by decide) nw_RX6_120 rfl rfl rfl (Nat.lt_of_lt_of_eq (by decide) len_P.symm) s_P_lie dX6_board_84 (fun M_18 H locs eM_18 hP hS => ?_)
              have hF := hF M_18 eM_18
              refine lv_iconst (v := 1) hx hb dX6_board_87 (by decide) ?_
              exact retI S hr hlocks hP hS hF dX6_board_88
            · have hF := hF.1 c_16
              refine lv_iconst (v := 0) hx hb dX6_board_69 (by decide) ?_
              exact retI S hr hlocks hP hS hF dX6_board_70
      · have hF := hF.1 c_5
        refine lv_bipush (v := -3) hx hb dX6_board_34 (by decide) ?_
        exact retI S hr hlocks hP hS hF dX6_board_36
    · have hF := hF.1 c_4
      refine lv_bipush (v := -2) hx hb dX6_board_21 (by decide) ?_
      exact retI S hr hlocks hP hS hF dX6_board_23
def wX6_barFor (a1 : Int32) (a2 : Int32) (Q : Int32 → Mm → Prop) (M : Mm) : Prop := ((a2 = 0 → (wX2_hisBar a1 (fun r_2 M_2 => (Q r_2 M_2)) M)) ∧ (¬ a2 = 0 → ((a2 = 1 → (wX6_at 25 a1 (fun r_4 M_4 => (Q r_4 M_4)) M)) ∧ (¬ a2 = 1 → (Q (5 : Int32) M)))))
set_option maxHeartbeats 4000000 in
set_option maxRecDepth 100000 in
theorem ctX6_barFor (l : Launch) (D : va_G) (cI cJ : ClassId) (ad : Nat → Nat) (had : inj54 ad) (a1 : Int32) (a2 : Int32) (Q : Int32 → Mm → Prop) (M : Mm) (hF : wX6_barFor a1 a2 Q M) : Met l yX6_barFor wsX6_barFor ({ frames := 3, cells := 0, slots := 0, locals := 66 } : Room) (PcW D cI cJ ad M [.ref (ad 0), .int a1, .int a2]) (QiW D cI cJ ad Q) 0 0 (Fr ad) := by
  refine entW (y := yX6_barFor) (ret := some .int) (maxL := 3) (plainFor_of_name (by decide)) rfl (Nat.le_of_ble_eq_true rfl) ?_
  intro p e s m args below meth c ls S hK hr hlocks hP hS hl
  have hx := S.1
  have hb := S.2.1
  have hown := S.2.2.2.1
  have hts := S.2.2.2.2
  have i6 : ∀ w ∈ wsX60, w ∈ wsX6_barFor := by decide +kernel
  have i0 : ∀ w ∈ wsX00, w ∈ wsX6_barFor := by decide +kernel
  have k30 := hts (.fieldLink RX6 30 "RopeLine" "here" "LRopeLine$Place;") (by decide +kernel)
  have k44 := hts (.fieldLink RX6 44 "RopeLine" "gains" "LRopeLine$Gains;") (by decide +kernel)
  have hl : lv_has ls 3 [(0, .ref (ad 0)), (1, .int a1), (2, .int a2)] := hl
  unfold wX6_barFor at hF
  refine lv_iload_n hx hb dX6_barFor_0 rfl (lv_at hl 2 rfl) ?_
  by_cases c_1 : a2 = 0
  · have hF := hF.1 c_1
    refine lv_lookup (off := 27) (tgt := 28) hx hb dX6_barFor_1 (by decide) (by rw [c_1]; rfl) (by decide) ?_
    refine lv_aload_n hx hb dX6_barFor_28 rfl (lv_at hl 0 rfl) ?_
    refine gF S hK hP i6 e_R rfl 2 (by decide) k30 f_R_here dX6_barFor_29 ?_
    refine lv_iload_n hx hb dX6_barFor_32 rfl (lv_at hl 1 rfl) ?_
    refine goI (rV (rest := []) S hK hP (ctX2_hisBar l D cI cJ ad had a1 _ _ hF) (cwV 1 hts gX6_barFor_X2_hisBar rfl rfl rfl hdV_X2_hisBar ⟨Nat.le_of_ble_eq_true rfl, Nat.le_of_ble_eq_true rfl⟩) e_P rfl rfl hl.1 rfl (Nat.le_of_ble_eq_true rfl) dX6_barFor_33 ⟨Nat.zero_le _, Nat.zero_le _⟩) hS (fun _ h => h) (fun r_2 M_2 H locs hP hS hF => ?_)
    exact retI S hr hlocks hP hS hF dX6_barFor_36
  · have hF := hF.2 c_1
    by_cases c_3 : a2 = 1
    · have hF := hF.1 c_3
      refine lv_lookup (off := 36) (tgt := 37) hx hb dX6_barFor_1 (by decide) (by rw [c_3]; rfl) (by decide) ?_
      refine lv_aload_n hx hb dX6_barFor_37 rfl (lv_at hl 0 rfl) ?_
      refine gF S hK hP i6 e_R rfl 4 (by decide) k44 f_R_gains dX6_barFor_38 ?_
      refine gN S hK hP i0 e_G rfl 2 (by decide) nw_RX6_153 f_G_bestRow dX6_barFor_41 ?_
      refine lv_iload_n hx hb dX6_barFor_44 rfl (lv_at hl 1 rfl) ?_
      refine goI (rS (rest := []) S hK hP (ctX6_at l D cI cJ ad had 25 rfl a1 _ _ hF) (va_cwS 2 hts gX6_barFor_X6_at rfl rfl rfl hdS_X6_at ⟨Nat.le_of_ble_eq_true rfl, Nat.le_of_ble_eq_true rfl⟩) rfl hl.1 rfl (Nat.le_of_ble_eq_true rfl) dX6_barFor_45 ⟨Nat.zero_le _, Nat.zero_le _⟩) hS (fun _ h => h) (fun r_4 M_4 H locs hP hS hF => ?_)
      exact retI S hr hlocks hP hS hF dX6_barFor_48
    · have hF := hF.2 c_3
      refine lv_lookup (off := 48) (tgt := 49) hx hb dX6_barFor_1 (by decide) ((lv_osw c_1 (k := 0) (by decide)).trans ((lv_osw c_3 (k := 1) (by decide)).trans (rfl))) (by decide) ?_
      refine lv_iconst (v := 5) hx hb dX6_barFor_49 (by decide) ?_
      exact retI S hr hlocks hP hS hF dX6_barFor_50
def bX6_bars_45 (a1 : Int32) (Q : Int32 → Mm → Prop) (J_45 : Int32 → Int32 → Mm → Prop) (x2_45 : Int32) (x3_45 : Int32) (m45 : Mm) : Prop := (((gi m45 14) ≤ x3_45 → (Q x2_45 m45)) ∧ (¬ (gi m45 14) ≤ x3_45 → (wX6_barFor x3_45 a1 (fun r_6 M_6 => (wX6_at 15 x3_45 (fun r_7 M_7 => ((r_7 = r_6 → (wX6_set 15 x3_45 r_6 (fun M_9 => (J_45 x2_45 (x3_45 + 1) M_9)) M_7)) ∧ (¬ r_7 = r_6 → (wX6_set 15 x3_45 r_6 (fun M_10 => (J_45 (x2_45 + 1) (x3_45 + 1) M_10)) M_7)))) M_6)) m45)))
def lX6_bars_45 (a1 : Int32) (Q : Int32 → Mm → Prop) (x2_45 : Int32) (x3_45 : Int32) (m45 : Mm) : Prop := ∀ I : Int32 → Int32 → Mm → Prop, (∀ J : Int32 → Int32 → Mm → Prop, (∀ (x2_45 : Int32) (x3_45 : Int32) (m : Mm), J x2_45 x3_45 m → I x2_45 x3_45 m) → ∀ (x2_45 : Int32) (x3_45 : Int32) (m : Mm), bX6_bars_45 a1 Q J x2_45 x3_45 m → I x2_45 x3_45 m) → I x2_45 x3_45 m45
theorem lX6_bars_45_mk (a1 : Int32) (Q : Int32 → Mm → Prop) (x2_45 : Int32) (x3_45 : Int32) (m45 : Mm) (h : bX6_bars_45 a1 Q (lX6_bars_45 a1 Q) x2_45 x3_45 m45) : lX6_bars_45 a1 Q x2_45 x3_45 m45 := fun I hI => hI (lX6_bars_45 a1 Q) (fun _ _ _ q => q I hI) _ _ _ h
def wX6_bars (a1 : Int32) (Q : Int32 → Mm → Prop) (M : Mm) : Prop := (wX6_isWithin a1 (0 : Int32) (2 : Int32) (fun r_1 M_1 => ((r_1 = 0 → (Q (-2 : Int32) M_1)) ∧ (¬ r_1 = 0 → (((gi M_1 11) = 0 → (Q (-3 : Int32) M_1)) ∧ (¬ (gi M_1 11) = 0 → ((a1 = (1 : Int32) → (wX0_knowBest (fun M_11 => (lX6_bars_45 a1 Q (0 : Int32) (0 : Int32) M_11)) M_1)) ∧ (¬ a1 = (1 : Int32) → (lX6_bars_45 a1 Q (0 : Int32) (0 : Int32) M_1)))))))) M)
set_option maxHeartbeats 4000000 in
set_option maxRecDepth 100000 in
theorem ctX6_bars (l : Launch) (D : va_G) (cI cJ : ClassId) (ad : Nat → Nat) (had : inj54 ad) (a1 : Int32) (Q : Int32 → Mm → Prop) (M : Mm) (hF : wX6_bars a1 Q M) : Met l yX6_bars wsX6_bars ({ frames := 6, cells := 0, slots := 0, locals := 140 } : Room) (PcW D cI cJ ad M [.ref (ad 0), .int a1]) (QiW D cI cJ ad Q) 0 0 (Fr ad) := by
  refine entW (y := yX6_bars) (ret := some .int) (maxL := 5) (plainFor_of_name (by decide)) rfl (Nat.le_of_ble_eq_true rfl) ?_
  intro p e s m args below meth c ls S hK hr hlocks hP hS hl
  have hx := S.1
  have hb := S.2.1
  have hown := S.2.2.2.1
  have hts := S.2.2.2.2
  have i6 : ∀ w ∈ wsX60, w ∈ wsX6_bars := by decide +kernel
  have i2 : ∀ w ∈ wsX20, w ∈ wsX6_bars := by decide +kernel
  have k30 := hts (.fieldLink RX6 30 "RopeLine" "here" "LRopeLine$Place;") (by decide +kernel)
  have k44 := hts (.fieldLink RX6 44 "RopeLine" "gains" "LRopeLine$Gains;") (by decide +kernel)
  have hl : lv_has ls 5 [(0, .ref (ad 0)), (1, .int a1)] := hl
  unfold wX6_bars at hF
  refine lv_iload_n hx hb dX6_bars_0 rfl (lv_at hl 1 rfl) ?_
  refine lv_iconst (v := 0) hx hb dX6_bars_1 (by decide) ?_
  refine lv_iconst (v := 2) hx hb dX6_bars_2 (by decide) ?_
  refine goZ (rS (rest := []) S hK hP (ctX6_isWithin l D cI cJ ad had a1 (0 : Int32) (2 : Int32) _ _ hF) (va_cwS 3 hts gX6_bars_X6_isWithin rfl rfl rfl hdS_X6_isWithin ⟨Nat.le_of_ble_eq_true rfl, Nat.le_of_ble_eq_true rfl⟩) rfl hl.1 rfl (Nat.le_of_ble_eq_true rfl) dX6_bars_3 ⟨Nat.zero_le _, Nat.zero_le _⟩) hS (fun _ h => h) (fun r_1 M_1 H locs hP hS hz_r_1 hF => ?_)
  refine lv_if_ne (tgt := 12) hx hb dX6_bars_6 (by decide) (fun c_2 => ?_) (fun c_2 => ?_)
  · have hF := hF.2 c_2
    refine lv_aload_n hx hb dX6_bars_12 rfl (lv_at hl 0 rfl) ?_
    refine gF S hK hP i6 e_R rfl 2 (by decide) k30 f_R_here dX6_bars_13 ?_
    refine gN S hK hP i2 e_P rfl 3 (by decide) nw_RX6_100 f_P_isTold dX6_bars_16 ?_
    refine lv_if_ne (tgt := 25) hx hb dX6_bars_19 (by decide) (fun c_3 => ?_) (fun c_3 => ?_)
    · have hF := hF.2 c_3
      refine lv_iload_n hx hb dX6_bars_25 rfl (lv_at hl 1 rfl) ?_
      refine lv_iconst (v := 1) hx hb dX6_bars_26 (by decide) ?_
      refine lv_icmp_ne (tgt := 41) hx hb dX6_bars_27 (by decide) (fun c_4 => ?_) (fun c_4 => ?_)
      · have hF := hF.2 c_4
        refine lv_iconst (v := 0) hx hb dX6_bars_41 (by decide) ?_
        refine lv_istore_n (lv' := [(2, .int (0 : Int32)), (0, .ref (ad 0)), (1, .int a1)]) hx hb dX6_bars_42 rfl hl (by decide) rfl (fun ls hl => ?_)
        refine lv_iconst (v := 0) hx hb dX6_bars_43 (by decide) ?_
        refine lv_istore_n (lv' := [(3, .int (0 : Int32)), (2, .int (0 : Int32)), (0, .ref (ad 0)), (1, .int a1)]) hx hb dX6_bars_44 rfl hl (by decide) rfl (fun ls hl => ?_)
        have key_45 : ∀ (x2_45 : Int32) (x3_45 : Int32) (m45 : Mm), (lX6_bars_45 a1 Q x2_45 x3_45 m45) → Wc p l e ({ frames := 6, cells := 0, slots := 0, locals := 140 } : Room) s m args below meth c D cI cJ ad (MQ below (QiW D cI cJ ad Q) args s 0 0 (Fr ad)) 5 45 [(0, .ref (ad 0)), (1, .int a1), (2, .int x2_45), (3, .int x3_45)] m45 := by
          intro x2_45 x3_45 m45 hL
          refine hL (fun x2_45 x3_45 m45 => Wc p l e ({ frames := 6, cells := 0, slots := 0, locals := 140 } : Room) s m args below meth c D cI cJ ad (MQ below (QiW D cI cJ ad Q) args s 0 0 (Fr ad)) 5 45 [(0, .ref (ad 0)), (1, .int a1), (2, .int x2_45), (3, .int x3_45)] m45) ?_
          intro J_45 hJ_45 x2_45 x3_45 m45 hF H locs ls hP hS hl
          unfold bX6_bars_45 at hF
          refine lv_iload_n hx hb dX6_bars_45 rfl (lv_at hl 3 rfl) ?_
          refine lv_aload_n hx hb dX6_bars_46 rfl (lv_at hl 0 rfl) ?_
          refine gF S hK hP i6 e_R rfl 2 (by decide) k30 f_R_here dX6_bars_47 ?_
          refine gN S hK hP i2 e_P rfl 6 (by decide) nw_RX6_97 f_P_sorts dX6_bars_50 ?_
          refine lv_icmp_ge (tgt := 102) hx hb dX6_bars_53 (by decide) (fun c_5 => ?_) (fun c_5 => ?_)
          · have hF := hF.1 c_5
            refine lv_iload_n hx hb dX6_bars_102 rfl (lv_at hl 2 rfl) ?_
            exact retI S hr hlocks hP hS hF dX6_bars_103
          · have hF := hF.2 c_5
            refine lv_aload_n hx hb dX6_bars_56 rfl (lv_at hl 0 rfl) ?_
            refine lv_iload_n hx hb dX6_bars_57 rfl (lv_at hl 3 rfl) ?_
            refine lv_iload_n hx hb dX6_bars_58 rfl (lv_at hl 1 rfl) ?_
            refine goI (rV (rest := []) S hK hP (ctX6_barFor l D cI cJ ad had x3_45 a1 _ _ hF) (cwV 2 hts gX6_bars_X6_barFor rfl rfl rfl hdV_X6_barFor ⟨Nat.le_of_ble_eq_true rfl, Nat.le_of_ble_eq_true rfl⟩) e_R rfl rfl hl.1 rfl (Nat.le_of_ble_eq_true rfl) dX6_bars_59 ⟨Nat.zero_le _, Nat.zero_le _⟩) hS (fun _ h => h) (fun r_6 M_6 H locs hP hS hF => ?_)
            refine lv_istore (lv' := [(4, .int r_6), (0, .ref (ad 0)), (1, .int a1), (2, .int x2_45), (3, .int x3_45)]) hx hb dX6_bars_62 hl (by decide) rfl (fun ls hl => ?_)
            refine lv_aload_n hx hb dX6_bars_64 rfl (lv_at hl 1 rfl) ?_
            refine gF S hK hP i6 e_R rfl 2 (by decide) k30 f_R_here dX6_bars_65 ?_
            refine gN S hK hP i2 e_P rfl 2 (by decide) nw_RX6_135 f_P_bars dX6_bars_68 ?_
            refine lv_iload_n hx hb dX6_bars_71 rfl (lv_at hl 4 rfl) ?_
            refine goI (rS (rest := []) S hK hP (ctX6_at l D cI cJ ad had 15 rfl x3_45 _ _ hF) (va_cwS 2 hts gX6_bars_X6_at rfl rfl rfl hdS_X6_at ⟨Nat.le_of_ble_eq_true rfl, Nat.le_of_ble_eq_true rfl⟩) rfl hl.1 rfl (Nat.le_of_ble_eq_true rfl) dX6_bars_72 ⟨Nat.zero_le _, Nat.zero_le _⟩) hS (fun _ h => h) (fun r_7 M_7 H locs hP hS hF => ?_)
            refine lv_iload hx hb dX6_bars_75 (lv_at hl 0 rfl) ?_
            refine lv_icmp_eq (tgt := 83) hx hb dX6_bars_77 (by decide) (fun c_8 => ?_) (fun c_8 => ?_)
            · have hF := hF.1 c_8
              refine lv_aload_n hx hb dX6_bars_83 rfl (lv_at hl 1 rfl) ?_
              refine gF S hK hP i6 e_R rfl 2 (by decide) k30 f_R_here dX6_bars_84 ?_
              refine gN S hK hP i2 e_P rfl 2 (by decide) nw_RX6_135 f_P_bars dX6_bars_87 ?_
              refine lv_iload_n hx hb dX6_bars_90 rfl (lv_at hl 4 rfl) ?_
              refine lv_iload hx hb dX6_bars_91 (lv_at hl 0 rfl) ?_
              refine goV (rS (rest := []) S hK hP (ctX6_set l D cI cJ ad had 15 rfl x3_45 r_6 _ _ hF) (va_cwS 3 hts gX6_bars_X6_set rfl rfl rfl hdS_X6_set ⟨Nat.le_of_ble_eq_true rfl, Nat.le_of_ble_eq_true rfl⟩) rfl hl.1 rfl (Nat.le_of_ble_eq_true rfl) dX6_bars_93 ⟨Nat.zero_le _, Nat.zero_le _⟩) hS (fun _ h => h) (fun M_9 H locs hP hS hF => ?_)
              refine lv_iinc (v := (x3_45 + 1)) (lv' := [(3, .int (x3_45 + 1)), (4, .int r_6), (0, .ref (ad 0)), (1, .int a1), (2, .int x2_45)]) hx hb dX6_bars_96 hl (k := 4) rfl rfl (by decide) rfl (fun ls hl => ?_)
              refine lv_goto (tgt := 45) hx hb dX6_bars_99 (by decide) ?_
              exact hJ_45 _ _ _ hF _ _ _ hP hS (lv_sub hl [2, 3, 4, 0] rfl)
            · have hF := hF.2 c_8
              refine lv_iinc (v := (x2_45 + 1)) (lv' := [(2, .int (x2_45 + 1)), (4, .int r_6), (0, .ref (ad 0)), (1, .int a1), (3, .int x3_45)]) hx hb dX6_bars_80 hl (k := 3) rfl rfl (by decide) rfl (fun ls hl => ?_)
              refine lv_aload_n hx hb dX6_bars_83 rfl (lv_at hl 2 rfl) ?_
              refine gF S hK hP i6 e_R rfl 2 (by decide) k30 f_R_here dX6_bars_84 ?_
              refine gN S hK hP i2 e_P rfl 2 (by decide) nw_RX6_135 f_P_bars dX6_bars_87 ?_
              refine lv_iload_n hx hb dX6_bars_90 rfl (lv_at hl 4 rfl) ?_
              refine lv_iload hx hb dX6_bars_91 (lv_at hl 1 rfl) ?_
              refine goV (rS (rest := []) S hK hP (ctX6_set l D cI cJ ad had 15 rfl x3_45 r_6 _ _ hF) (va_cwS 3 hts gX6_bars_X6_set rfl rfl rfl hdS_X6_set ⟨Nat.le_of_ble_eq_true rfl, Nat.le_of_ble_eq_true rfl⟩) rfl hl.1 rfl (Nat.le_of_ble_eq_true rfl) dX6_bars_93 ⟨Nat.zero_le _, Nat.zero_le _⟩) hS (fun _ h => h) (fun M_10 H locs hP hS hF => ?_)
              refine lv_iinc (v := (x3_45 + 1)) (lv' := [(3, .int (x3_45 + 1)), (2, .int (x2_45 + 1)), (4, .int r_6), (0, .ref (ad 0)), (1, .int a1)]) hx hb dX6_bars_96 hl (k := 4) rfl rfl (by decide) rfl (fun ls hl => ?_)
              refine lv_goto (tgt := 45) hx hb dX6_bars_99 (by decide) ?_
              exact hJ_45 _ _ _ hF _ _ _ hP hS (lv_sub hl [3, 4, 1, 0] rfl)
        exact key_45 _ _ _ hF _ _ _ hP hS (lv_sub hl [2, 3, 1, 0] rfl)
      · have hF := hF.1 c_4
        refine lv_aload_n hx hb dX6_bars_30 rfl (lv_at hl 0 rfl) ?_
        refine gF S hK hP i6 e_R rfl 4 (by decide) k44 f_R_gains dX6_bars_31 ?_
        refine lv_aload_n hx hb dX6_bars_34 rfl (lv_at hl 0 rfl) ?_
        refine gF S hK hP i6 e_R rfl 2 (by decide) k30 f_R_here dX6_bars_35 ?_
        refine goV (rV (rest := []) S hK hP (ctX0_knowBest l D cI cJ ad had  _ _ hF) (cwV 1 hts gX6_bars_X0_knowBest rfl rfl rfl hdV_X0_knowBest ⟨Nat.le_of_ble_eq_true rfl, Nat.le_of_ble_eq_true rfl⟩) e_G rfl rfl hl.1 rfl (Nat.le_of_ble_eq_true rfl) dX6_bars_38 ⟨Nat.zero_le _, Nat.zero_le _⟩) hS (fun _ h => h) (fun M_11 H locs hP hS hF => ?_)
        refine lv_iconst (v := 0) hx hb dX6_bars_41 (by decide) ?_
        refine lv_istore_n (lv' := [(2, .int (0 : Int32)), (0, .ref (ad 0)), (1, .int a1)]) hx hb dX6_bars_42 rfl hl (by decide) rfl (fun ls hl => ?_)
        refine lv_iconst (v := 0) hx hb dX6_bars_43 (by decide) ?_
        refine lv_istore_n (lv' := [(3, .int (0 : Int32)), (2, .int (0 : Int32)), (0, .ref (ad 0)), (1, .int a1)]) hx hb dX6_bars_44 rfl hl (by decide) rfl (fun ls hl => ?_)
        have key_45 : ∀ (x2_45 : Int32) (x3_45 : Int32) (m45 : Mm), (lX6_bars_45 a1 Q x2_45 x3_45 m45) → Wc p l e ({ frames := 6, cells := 0, slots := 0, locals := 140 } : Room) s m args below meth c D cI cJ ad (MQ below (QiW D cI cJ ad Q) args s 0 0 (Fr ad)) 5 45 [(0, .ref (ad 0)), (1, .int a1), (2, .int x2_45), (3, .int x3_45)] m45 := by
          intro x2_45 x3_45 m45 hL
          refine hL (fun x2_45 x3_45 m45 => Wc p l e ({ frames := 6, cells := 0, slots := 0, locals := 140 } : Room) s m args below meth c D cI cJ ad (MQ below (QiW D cI cJ ad Q) args s 0 0 (Fr ad)) 5 45 [(0, .ref (ad 0)), (1, .int a1), (2, .int x2_45), (3, .int x3_45)] m45) ?_
          intro J_45 hJ_45 x2_45 x3_45 m45 hF H locs ls hP hS hl
          unfold bX6_bars_45 at hF
          refine lv_iload_n hx hb dX6_bars_45 rfl (lv_at hl 3 rfl) ?_
          refine lv_aload_n hx hb dX6_bars_46 rfl (lv_at hl 0 rfl) ?_
          refine gF S hK hP i6 e_R rfl 2 (by decide) k30 f_R_here dX6_bars_47 ?_
          refine gN S hK hP i2 e_P rfl 6 (by decide) nw_RX6_97 f_P_sorts dX6_bars_50 ?_
          refine lv_icmp_ge (tgt := 102) hx hb dX6_bars_53 (by decide) (fun c_12 => ?_) (fun c_12 => ?_)
          · have hF := hF.1 c_12
            refine lv_iload_n hx hb dX6_bars_102 rfl (lv_at hl 2 rfl) ?_
            exact retI S hr hlocks hP hS hF dX6_bars_103
          · have hF := hF.2 c_12
            refine lv_aload_n hx hb dX6_bars_56 rfl (lv_at hl 0 rfl) ?_
            refine lv_iload_n hx hb dX6_bars_57 rfl (lv_at hl 3 rfl) ?_
            refine lv_iload_n hx hb dX6_bars_58 rfl (lv_at hl 1 rfl) ?_
            refine goI (rV (rest := []) S hK hP (ctX6_barFor l D cI cJ ad had x3_45 a1 _ _ hF) (cwV 2 hts gX6_bars_X6_barFor rfl rfl rfl hdV_X6_barFor ⟨Nat.le_of_ble_eq_true rfl, Nat.le_of_ble_eq_true rfl⟩) e_R rfl rfl hl.1 rfl (Nat.le_of_ble_eq_true rfl) dX6_bars_59 ⟨Nat.zero_le _, Nat.zero_le _⟩) hS (fun _ h => h) (fun r_13 M_13 H locs hP hS hF => ?_)
            refine lv_istore (lv' := [(4, .int r_13), (0, .ref (ad 0)), (1, .int a1), (2, .int x2_45), (3, .int x3_45)]) hx hb dX6_bars_62 hl (by decide) rfl (fun ls hl => ?_)
            refine lv_aload_n hx hb dX6_bars_64 rfl (lv_at hl 1 rfl) ?_
            refine gF S hK hP i6 e_R rfl 2 (by decide) k30 f_R_here dX6_bars_65 ?_
            refine gN S hK hP i2 e_P rfl 2 (by decide) nw_RX6_135 f_P_bars dX6_bars_68 ?_
            refine lv_iload_n hx hb dX6_bars_71 rfl (lv_at hl 4 rfl) ?_
            refine goI (rS (rest := []) S hK hP (ctX6_at l D cI cJ ad had 15 rfl x3_45 _ _ hF) (va_cwS 2 hts gX6_bars_X6_at rfl rfl rfl hdS_X6_at ⟨Nat.le_of_ble_eq_true rfl, Nat.le_of_ble_eq_true rfl⟩) rfl hl.1 rfl (Nat.le_of_ble_eq_true rfl) dX6_bars_72 ⟨Nat.zero_le _, Nat.zero_le _⟩) hS (fun _ h => h) (fun r_14 M_14 H locs hP hS hF => ?_)
            refine lv_iload hx hb dX6_bars_75 (lv_at hl 0 rfl) ?_
            refine lv_icmp_eq (tgt := 83) hx hb dX6_bars_77 (by decide) (fun c_15 => ?_) (fun c_15 => ?_)
            · have hF := hF.1 c_15
              refine lv_aload_n hx hb dX6_bars_83 rfl (lv_at hl 1 rfl) ?_
              refine gF S hK hP i6 e_R rfl 2 (by decide) k30 f_R_here dX6_bars_84 ?_
              refine gN S hK hP i2 e_P rfl 2 (by decide) nw_RX6_135 f_P_bars dX6_bars_87 ?_
              refine lv_iload_n hx hb dX6_bars_90 rfl (lv_at hl 4 rfl) ?_
              refine lv_iload hx hb dX6_bars_91 (lv_at hl 0 rfl) ?_
              refine goV (rS (rest := []) S hK hP (ctX6_set l D cI cJ ad had 15 rfl x3_45 r_13 _ _ hF) (va_cwS 3 hts gX6_bars_X6_set rfl rfl rfl hdS_X6_set ⟨Nat.le_of_ble_eq_true rfl, Nat.le_of_ble_eq_true rfl⟩) rfl hl.1 rfl (Nat.le_of_ble_eq_true rfl) dX6_bars_93 ⟨Nat.zero_le _, Nat.zero_le _⟩) hS (fun _ h => h) (fun M_16 H locs hP hS hF => ?_)
              refine lv_iinc (v := (x3_45 + 1)) (lv' := [(3, .int (x3_45 + 1)), (4, .int r_13), (0, .ref (ad 0)), (1, .int a1), (2, .int x2_45)]) hx hb dX6_bars_96 hl (k := 4) rfl rfl (by decide) rfl (fun ls hl => ?_)
              refine lv_goto (tgt := 45) hx hb dX6_bars_99 (by decide) ?_
              exact hJ_45 _ _ _ hF _ _ _ hP hS (lv_sub hl [2, 3, 4, 0] rfl)
            · have hF := hF.2 c_15
              refine lv_iinc (v := (x2_45 + 1)) (lv' := [(2, .int (x2_45 + 1)), (4, .int r_13), (0, .ref (ad 0)), (1, .int a1), (3, .int x3_45)]) hx hb dX6_bars_80 hl (k := 3) rfl rfl (by decide) rfl (fun ls hl => ?_)
              refine lv_aload_n hx hb dX6_bars_83 rfl (lv_at hl 2 rfl) ?_
              refine gF S hK hP i6 e_R rfl 2 (by decide) k30 f_R_here dX6_bars_84 ?_
              refine gN S hK hP i2 e_P rfl 2 (by decide) nw_RX6_135 f_P_bars dX6_bars_87 ?_
              refine lv_iload_n hx hb dX6_bars_90 rfl (lv_at hl 4 rfl) ?_
              refine lv_iload hx hb dX6_bars_91 (lv_at hl 1 rfl) ?_
              refine goV (rS (rest := []) S hK hP (ctX6_set l D cI cJ ad had 15 rfl x3_45 r_13 _ _ hF) (va_cwS 3 hts gX6_bars_X6_set rfl rfl rfl hdS_X6_set ⟨Nat.le_of_ble_eq_true rfl, Nat.le_of_ble_eq_true rfl⟩) rfl hl.1 rfl (Nat.le_of_ble_eq_true rfl) dX6_bars_93 ⟨Nat.zero_le _, Nat.zero_le _⟩) hS (fun _ h => h) (fun M_17 H locs hP hS hF => ?_)
              refine lv_iinc (v := (x3_45 + 1)) (lv' := [(3, .int (x3_45 + 1)), (2, .int (x2_45 + 1)), (4, .int r_13), (0, .ref (ad 0)), (1, .int a1)]) hx hb dX6_bars_96 hl (k := 4) rfl rfl (by decide) rfl (fun ls hl => ?_)
              refine lv_goto (tgt := 45) hx hb dX6_bars_99 (by decide) ?_
              exact hJ_45 _ _ _ hF _ _ _ hP hS (lv_sub hl [3, 4, 1, 0] rfl)
        exact key_45 _ _ _ hF _ _ _ hP hS (lv_sub hl [2, 3, 1, 0] rfl)
    · have hF := hF.1 c_3
      refine lv_bipush (v := -3) hx hb dX6_bars_22 (by decide) ?_
      exact retI S hr hlocks hP hS hF dX6_bars_24
  · have hF := hF.1 c_2
    refine lv_bipush (v := -2) hx hb dX6_bars_9 (by decide) ?_
    exact retI S hr hlocks hP hS hF dX6_bars_11
def wX6_often (a1 : Int32) (a2 : Int32) (Q : Int64 → Mm → Prop) (M : Mm) : Prop := (wX6_isWithin a1 (0 : Int32) (5 : Int32) (fun r_1 M_1 => ((r_1 = 0 → (Q (-9223372036854775808 : Int64) M_1)) ∧ (¬ r_1 = 0 → (wX6_isWithin a2 (0 : Int32) (1 : Int32) (fun r_3 M_3 => ((r_3 = 0 → (Q (-9223372036854775808 : Int64) M_3)) ∧ (¬ r_3 = 0 → (((gi M_3 11) = 0 → (Q (-9223372036854775808 : Int64) M_3)) ∧ (¬ (gi M_3 11) = 0 → (wX1_comeByBars 0 15 (fun M_6 => (wX6_at_ 17 a1 (fun r_7 M_7 => (wX6_share r_7 (gj M_7 0) a2 (fun r_8 M_8 => (Q r_8 M_8)) M_7)) M_6)) M_3)))))) M_1)))) M)
set_option maxHeartbeats 4000000 in
set_option maxRecDepth 100000 in
theorem ctX6_often (l : Launch) (D : va_G) (cI cJ : ClassId) (ad : Nat → Nat) (had : inj54 ad) (a1 : Int32) (a2 : Int32) (Q : Int64 → Mm → Prop) (M : Mm) (hF : wX6_often a1 a2 Q M) : Met l yX6_often wsX6_often ({ frames := 4, cells := 0, slots := 0, locals := 87 } : Room) (PcW D cI cJ ad M [.ref (ad 0), .int a1, .int a2]) (QlW D cI cJ ad Q) 0 0 (Fr ad) := by
  refine entW (y := yX6_often) (ret := some .long) (maxL := 3) (plainFor_of_name (by decide)) rfl (Nat.le_of_ble_eq_true rfl) ?_
  intro p e s m args below meth c ls S hK hr hlocks hP hS hl
  have hx := S.1
  have hb := S.2.1
  have hown := S.2.2.2.1
  have hts := S.2.2.2.2
  have i6 : ∀ w ∈ wsX60, w ∈ wsX6_often := by decide +kernel
  have i2 : ∀ w ∈ wsX20, w ∈ wsX6_often := by decide +kernel
  have i1 : ∀ w ∈ wsX10, w ∈ wsX6_often := by decide +kernel
  have k30 := hts (.fieldLink RX6 30 "RopeLine" "here" "LRopeLine$Place;") (by decide +kernel)
  have k37 := hts (.fieldLink RX6 37 "RopeLine" "lengths" "LRopeLine$Lengths;") (by decide +kernel)
  have hl : lv_has ls 3 [(0, .ref (ad 0)), (1, .int a1), (2, .int a2)] := hl
  unfold wX6_often at hF
  refine lv_iload_n hx hb dX6_often_0 rfl (lv_at hl 1 rfl) ?_
  refine lv_iconst (v := 0) hx hb dX6_often_1 (by decide) ?_
  refine lv_iconst (v := 5) hx hb dX6_often_2 (by decide) ?_
  refine goZ (rS (rest := []) S hK hP (ctX6_isWithin l D cI cJ ad had a1 (0 : Int32) (5 : Int32) _ _ hF) (va_cwS 3 hts gX6_often_X6_isWithin rfl rfl rfl hdS_X6_isWithin ⟨Nat.le_of_ble_eq_true rfl, Nat.le_of_ble_eq_true rfl⟩) rfl hl.1 rfl (Nat.le_of_ble_eq_true rfl) dX6_often_3 ⟨Nat.zero_le _, Nat.zero_le _⟩) hS (fun _ h => h) (fun r_1 M_1 H locs hP hS hz_r_1 hF => ?_)
  refine lv_if_eq (tgt := 28) hx hb dX6_often_6 (by decide) (fun c_2 => ?_) (fun c_2 => ?_)
  · have hF := hF.1 c_2
    refine lv_ldc2 (v := -9223372036854775808) hx hb hown (hts (.constantLong RX6 156 (-9223372036854775808)) (by decide +kernel)) dX6_often_28 ?_
    exact retL S hr hlocks hP hS hF dX6_often_31
  · have hF := hF.2 c_2
    refine lv_iload_n hx hb dX6_often_9 rfl (lv_at hl 2 rfl) ?_
    refine lv_iconst (v := 0) hx hb dX6_often_10 (by decide) ?_
    refine lv_iconst (v := 1) hx hb dX6_often_11 (by decide) ?_
    refine goZ (rS (rest := []) S hK hP (ctX6_isWithin l D cI cJ ad had a2 (0 : Int32) (1 : Int32) _ _ hF) (va_cwS 3 hts gX6_often_X6_isWithin rfl rfl rfl hdS_X6_isWithin ⟨Nat.le_of_ble_eq_true rfl, Nat.le_of_ble_eq_true rfl⟩) rfl hl.1 rfl (Nat.le_of_ble_eq_true rfl) dX6_often_12 ⟨Nat.zero_le _, Nat.zero_le _⟩) hS (fun _ h => h) (fun r_3 M_3 H locs hP hS hz_r_3 hF => ?_)
    refine lv_if_eq (tgt := 28) hx hb dX6_often_15 (by decide) (fun c_4 => ?_) (fun c_4 => ?_)
    · have hF := hF.1 c_4
      refine lv_ldc2 (v := -9223372036854775808) hx hb hown (hts (.constantLong RX6 156 (-9223372036854775808)) (by decide +kernel)) dX6_often_28 ?_
      exact retL S hr hlocks hP hS hF dX6_often_31
    · have hF := hF.2 c_4
      refine lv_aload_n hx hb dX6_often_18 rfl (lv_at hl 0 rfl) ?_
      refine gF S hK hP i6 e_R rfl 2 (by decide) k30 f_R_here dX6_often_19 ?_
      refine gN S hK hP i2 e_P rfl 3 (by decide) nw_RX6_100 f_P_isTold dX6_often_22 ?_
      refine lv_if_ne (tgt := 32) hx hb dX6_often_25 (by decide) (fun c_5 => ?_) (fun c_5 => ?_)
      · have hF := hF.2 c_5
        refine lv_aload_n hx hb dX6_often_32 rfl (lv_at hl 0 rfl) ?_
        refine gF S hK hP i6 e_R rfl 3 (by decide) k37 f_R_lengths dX6_often_33 ?_
        refine lv_aload_n hx hb dX6_often_36 rfl (lv_at hl 0 rfl) ?_
        refine gF S hK hP i6 e_R rfl 2 (by decide) k30 f_R_here dX6_often_37 ?_
        refine lv_aload_n hx hb dX6_often_40 rfl (lv_at hl 0 rfl) ?_
        refine gF S hK hP i6 e_R rfl 2 (by decide) k30 f_R_here dX6_often_41 ?_
        refine gN S hK hP i2 e_P rfl 2 (by decide) nw_RX6_135 f_P_bars dX6_often_44 ?_
        refine goV (rV (rest := []) S hK hP (ctX1_comeByBars l D cI cJ ad had 0 (by decide) 15 rfl _ _ hF) (cwV 2 hts gX6_often_X1_comeByBars rfl rfl rfl hdV_X1_comeByBars ⟨Nat.le_of_ble_eq_true rfl, Nat.le_of_ble_eq_true rfl⟩) (e_L (o := 0) (by decide)) rfl rfl hl.1 rfl (Nat.le_of_ble_eq_true rfl) dX6_often_47 ⟨Nat.zero_le _, Nat.zero_le _⟩) hS (fun _ h => h) (fun M_6 H locs hP hS hF => ?_)
        refine lv_aload_n hx hb dX6_often_50 rfl (lv_at hl 0 rfl) ?_
        refine gF S hK hP i6 e_R rfl 3 (by decide) k37 f_R_lengths dX6_often_51 ?_
        refine gN S hK hP i1 (e_L (o := 0) (by decide)) rfl 1 (by decide) nw_RX6_162 f_L_weights dX6_often_54 ?_
        refine lv_iload_n hx hb dX6_often_57 rfl (lv_at hl 1 rfl) ?_
        refine goL (rS (rest := []) S hK hP (ctX6_at_ l D cI cJ ad had 17 rfl a1 _ _ hF) (va_cwS 2 hts gX6_often_X6_at_ rfl rfl rfl hdS_X6_at_ ⟨Nat.le_of_ble_eq_true rfl, Nat.le_of_ble_eq_true rfl⟩) rfl hl.1 rfl (Nat.le_of_ble_eq_true rfl) dX6_often_58 ⟨Nat.zero_le _, Nat.zero_le _⟩) hS (fun _ h => h) (fun r_7 M_7 H locs hP hS hF => ?_)
        refine lv_aload_n hx hb dX6_often_61 rfl (lv_at hl 0 rfl) ?_
        refine gF S hK hP i6 e_R rfl 3 (by decide) k37 f_R_lengths dX6_often_62 ?_
        refine gN S hK hP i1 (e_L (o := 0) (by decide)) rfl 6 (by decide) nw_RX6_169 f_L_total dX6_often_65 ?_
        refine lv_iload_n hx hb dX6_often_68 rfl (lv_at hl 2 rfl) ?_
        refine goL (rS (rest := []) S hK hP (ctX6_share l D cI cJ ad had r_7 (gj M_7 0) a2 _ _ hF) (va_cwS 3 hts gX6_often_X6_share rfl rfl rfl hdS_X6_share ⟨Nat.le_of_ble_eq_true rfl, Nat.le_of_ble_eq_true rfl⟩) rfl hl.1 rfl (Nat.le_of_ble_eq_true rfl) dX6_often_69 ⟨Nat.zero_le _, Nat.zero_le _⟩) hS (fun _ h => h) (fun r_8 M_8 H locs hP hS hF => ?_)
        exact retL S hr hlocks hP hS hF dX6_often_72
      · have hF := hF.1 c_5
        refine lv_ldc2 (v := -9223372036854775808) hx hb hown (hts (.constantLong RX6 156 (-9223372036854775808)) (by decide +kernel)) dX6_often_28 ?_
        exact retL S hr hlocks hP hS hF dX6_often_31
def wX6_mean (a1 : Int32) (Q : Int64 → Mm → Prop) (M : Mm) : Prop := (wX6_isWithin a1 (0 : Int32) (1 : Int32) (fun r_1 M_1 => ((r_1 = 0 → (Q (-9223372036854775808 : Int64) M_1)) ∧ (¬ r_1 = 0 → (((gi M_1 11) = 0 → (Q (-9223372036854775808 : Int64) M_1)) ∧ (¬ (gi M_1 11) = 0 → (wX1_comeByBars 0 15 (fun M_4 => (wX1_lengthsByWeight 0 (fun r_5 M_5 => (wX6_share r_5 (gj M_5 0) a1 (fun r_6 M_6 => (Q r_6 M_6)) M_5)) M_4)) M_1)))))) M)
set_option maxHeartbeats 4000000 in
set_option maxRecDepth 100000 in
theorem ctX6_mean (l : Launch) (D : va_G) (cI cJ : ClassId) (ad : Nat → Nat) (had : inj54 ad) (a1 : Int32) (Q : Int64 → Mm → Prop) (M : Mm) (hF : wX6_mean a1 Q M) : Met l yX6_mean wsX6_mean ({ frames := 4, cells := 0, slots := 0, locals := 87 } : Room) (PcW D cI cJ ad M [.ref (ad 0), .int a1]) (QlW D cI cJ ad Q) 0 0 (Fr ad) := by
  refine entW (y := yX6_mean) (ret := some .long) (maxL := 2) (plainFor_of_name (by decide)) rfl (Nat.le_of_ble_eq_true rfl) ?_
  intro p e s m args below meth c ls S hK hr hlocks hP hS hl
  have hx := S.1
  have hb := S.2.1
  have hown := S.2.2.2.1
  have hts := S.2.2.2.2
  have i6 : ∀ w ∈ wsX60, w ∈ wsX6_mean := by decide +kernel
  have i2 : ∀ w ∈ wsX20, w ∈ wsX6_mean := by decide +kernel
  have i1 : ∀ w ∈ wsX10, w ∈ wsX6_mean := by decide +kernel
  have k30 := hts (.fieldLink RX6 30 "RopeLine" "here" "LRopeLine$Place;") (by decide +kernel)
  have k37 := hts (.fieldLink RX6 37 "RopeLine" "lengths" "LRopeLine$Lengths;") (by decide +kernel)
  have hl : lv_has ls 2 [(0, .ref (ad 0)), (1, .int a1)] := hl
  unfold wX6_mean at hF
  refine lv_iload_n hx hb dX6_mean_0 rfl (lv_at hl 1 rfl) ?_
  refine lv_iconst (v := 0) hx hb dX6_mean_1 (by decide) ?_
  refine lv_iconst (v := 1) hx hb dX6_mean_2 (by decide) ?_
  refine goZ (rS (rest := []) S hK hP (ctX6_isWithin l D cI cJ ad had a1 (0 : Int32) (1 : Int32) _ _ hF) (va_cwS 3 hts gX6_mean_X6_isWithin rfl rfl rfl hdS_X6_isWithin ⟨Nat.le_of_ble_eq_true rfl, Nat.le_of_ble_eq_true rfl⟩) rfl hl.1 rfl (Nat.le_of_ble_eq_true rfl) dX6_mean_3 ⟨Nat.zero_le _, Nat.zero_le _⟩) hS (fun _ h => h) (fun r_1 M_1 H locs hP hS hz_r_1 hF => ?_)
  refine lv_if_eq (tgt := 19) hx hb dX6_mean_6 (by decide) (fun c_2 => ?_) (fun c_2 => ?_)
  · have hF := hF.1 c_2
    refine lv_ldc2 (v := -9223372036854775808) hx hb hown (hts (.constantLong RX6 156 (-9223372036854775808)) (by decide +kernel)) dX6_mean_19 ?_
    exact retL S hr hlocks hP hS hF dX6_mean_22
  · have hF := hF.2 c_2
    refine lv_aload_n hx hb dX6_mean_9 rfl (lv_at hl 0 rfl) ?_
    refine gF S hK hP i6 e_R rfl 2 (by decide) k30 f_R_here dX6_mean_10 ?_
    refine gN S hK hP i2 e_P rfl 3 (by decide) nw_RX6_100 f_P_isTold dX6_mean_13 ?_
    refine lv_if_ne (tgt := 23) hx hb dX6_mean_16 (by decide) (fun c_3 => ?_) (fun c_3 => ?_)
    · have hF := hF.2 c_3
      refine lv_aload_n hx hb dX6_mean_23 rfl (lv_at hl 0 rfl) ?_
      refine gF S hK hP i6 e_R rfl 3 (by decide) k37 f_R_lengths dX6_mean_24 ?_
      refine lv_aload_n hx hb dX6_mean_27 rfl (lv_at hl 0 rfl) ?_
      refine gF S hK hP i6 e_R rfl 2 (by decide) k30 f_R_here dX6_mean_28 ?_
      refine lv_aload_n hx hb dX6_mean_31 rfl (lv_at hl 0 rfl) ?_
      refine gF S hK hP i6 e_R rfl 2 (by decide) k30 f_R_here dX6_mean_32 ?_
      refine gN S hK hP i2 e_P rfl 2 (by decide) nw_RX6_135 f_P_bars dX6_mean_35 ?_
      refine goV (rV (rest := []) S hK hP (ctX1_comeByBars l D cI cJ ad had 0 (by decide) 15 rfl _ _ hF) (cwV 2 hts gX6_mean_X1_comeByBars rfl rfl rfl hdV_X1_comeByBars ⟨Nat.le_of_ble_eq_true rfl, Nat.le_of_ble_eq_true rfl⟩) (e_L (o := 0) (by decide)) rfl rfl hl.1 rfl (Nat.le_of_ble_eq_true rfl) dX6_mean_38 ⟨Nat.zero_le _, Nat.zero_le _⟩) hS (fun _ h => h) (fun M_4 H locs hP hS hF => ?_)
      refine lv_aload_n hx hb dX6_mean_41 rfl (lv_at hl 0 rfl) ?_
      refine gF S hK hP i6 e_R rfl 3 (by decide) k37 f_R_lengths dX6_mean_42 ?_
      refine goL (rV (rest := []) S hK hP (ctX1_lengthsByWeight l D cI cJ ad had 0 (by decide) _ _ hF) (cwV 0 hts gX6_mean_X1_lengthsByWeight rfl rfl rfl hdV_X1_lengthsByWeight ⟨Nat.le_of_ble_eq_true rfl, Nat.le_of_ble_eq_true rfl⟩) (e_L (o := 0) (by decide)) rfl rfl hl.1 rfl (Nat.le_of_ble_eq_true rfl) dX6_mean_45 ⟨Nat.zero_le _, Nat.zero_le _⟩) hS (fun _ h => h) (fun r_5 M_5 H locs hP hS hF => ?_)
      refine lv_aload_n hx hb dX6_mean_48 rfl (lv_at hl 0 rfl) ?_
      refine gF S hK hP i6 e_R rfl 3 (by decide) k37 f_R_lengths dX6_mean_49 ?_
      refine gN S hK hP i1 (e_L (o := 0) (by decide)) rfl 6 (by decide) nw_RX6_169 f_L_total dX6_mean_52 ?_
      refine lv_iload_n hx hb dX6_mean_55 rfl (lv_at hl 1 rfl) ?_
      refine goL (rS (rest := []) S hK hP (ctX6_share l D cI cJ ad had r_5 (gj M_5 0) a1 _ _ hF) (va_cwS 3 hts gX6_mean_X6_share rfl rfl rfl hdS_X6_share ⟨Nat.le_of_ble_eq_true rfl, Nat.le_of_ble_eq_true rfl⟩) rfl hl.1 rfl (Nat.le_of_ble_eq_true rfl) dX6_mean_56 ⟨Nat.zero_le _, Nat.zero_le _⟩) hS (fun _ h => h) (fun r_6 M_6 H locs hP hS hF => ?_)
      exact retL S hr hlocks hP hS hF dX6_mean_59
    · have hF := hF.1 c_3
      refine lv_ldc2 (v := -9223372036854775808) hx hb hown (hts (.constantLong RX6 156 (-9223372036854775808)) (by decide +kernel)) dX6_mean_19 ?_
      exact retL S hr hlocks hP hS hF dX6_mean_22
def wX6_on (a1 : Int32) (a2 : Int32) (Q : Int64 → Mm → Prop) (M : Mm) : Prop := (wX2_has a1 (fun r_1 M_1 => ((r_1 = 0 → (Q (-9223372036854775808 : Int64) M_1)) ∧ (¬ r_1 = 0 → (wX6_isWithin a2 (0 : Int32) (1 : Int32) (fun r_3 M_3 => ((r_3 = 0 → (Q (-9223372036854775808 : Int64) M_3)) ∧ (¬ r_3 = 0 → (wX1_comeByBars 0 15 (fun M_5 => (wX6_at 15 a1 (fun r_6 M_6 => (wX1_foundBelow 0 r_6 (fun r_7 M_7 => (wX6_share (((12 : Int64) * (gj M_5 0)) - r_7) ((12 : Int64) * (gj M_5 0)) a2 (fun r_8 M_8 => (Q r_8 M_8)) M_7)) M_6)) M_5)) M_3)))) M_1)))) M)
set_option maxHeartbeats 4000000 in
set_option maxRecDepth 100000 in
theorem ctX6_on (l : Launch) (D : va_G) (cI cJ : ClassId) (ad : Nat → Nat) (had : inj54 ad) (a1 : Int32) (a2 : Int32) (Q : Int64 → Mm → Prop) (M : Mm) (hF : wX6_on a1 a2 Q M) : Met l yX6_on wsX6_on ({ frames := 4, cells := 0, slots := 0, locals := 87 } : Room) (PcW D cI cJ ad M [.ref (ad 0), .int a1, .int a2]) (QlW D cI cJ ad Q) 0 0 (Fr ad) := by
  refine entW (y := yX6_on) (ret := some .long) (maxL := 5) (plainFor_of_name (by decide)) rfl (Nat.le_of_ble_eq_true rfl) ?_
  intro p e s m args below meth c ls S hK hr hlocks hP hS hl
  have hx := S.1
  have hb := S.2.1
  have hown := S.2.2.2.1
  have hts := S.2.2.2.2
  have i6 : ∀ w ∈ wsX60, w ∈ wsX6_on := by decide +kernel
  have i2 : ∀ w ∈ wsX20, w ∈ wsX6_on := by decide +kernel
  have i1 : ∀ w ∈ wsX10, w ∈ wsX6_on := by decide +kernel
  have k30 := hts (.fieldLink RX6 30 "RopeLine" "here" "LRopeLine$Place;") (by decide +kernel)
  have k37 := hts (.fieldLink RX6 37 "RopeLine" "lengths" "LRopeLine$Lengths;") (by decide +kernel)
  have hl : lv_has ls 5 [(0, .ref (ad 0)), (1, .int a1), (2, .int a2)] := hl
  unfold wX6_on at hF
  refine lv_aload_n hx hb dX6_on_0 rfl (lv_at hl 0 rfl) ?_
  refine gF S hK hP i6 e_R rfl 2 (by decide) k30 f_R_here dX6_on_1 ?_
  refine lv_iload_n hx hb dX6_on_4 rfl (lv_at hl 1 rfl) ?_
  refine goZ (rV (rest := []) S hK hP (ctX2_has l D cI cJ ad had a1 _ _ hF) (cwV 1 hts gX6_on_X2_has rfl rfl rfl hdV_X2_has ⟨Nat.le_of_ble_eq_true rfl, Nat.le_of_ble_eq_true rfl⟩) e_P rfl rfl hl.1 rfl (Nat.le_of_ble_eq_true rfl) dX6_on_5 ⟨Nat.zero_le _, Nat.zero_le _⟩) hS (fun _ h => h) (fun r_1 M_1 H locs hP hS hz_r_1 hF => ?_)
  refine lv_if_eq (tgt := 20) hx hb dX6_on_8 (by decide) (fun c_2 => ?_) (fun c_2 => ?_)
  · have hF := hF.1 c_2
    refine lv_ldc2 (v := -9223372036854775808) hx hb hown (hts (.constantLong RX6 156 (-9223372036854775808)) (by decide +kernel)) dX6_on_20 ?_
    exact retL S hr hlocks hP hS hF dX6_on_23
  · have hF := hF.2 c_2
    refine lv_iload_n hx hb dX6_on_11 rfl (lv_at hl 2 rfl) ?_
    refine lv_iconst (v := 0) hx hb dX6_on_12 (by decide) ?_
    refine lv_iconst (v := 1) hx hb dX6_on_13 (by decide) ?_
    refine goZ (rS (rest := []) S hK hP (ctX6_isWithin l D cI cJ ad had a2 (0 : Int32) (1 : Int32) _ _ hF) (va_cwS 3 hts gX6_on_X6_isWithin rfl rfl rfl hdS_X6_isWithin ⟨Nat.le_of_ble_eq_true rfl, Nat.le_of_ble_eq_true rfl⟩) rfl hl.1 rfl (Nat.le_of_ble_eq_true rfl) dX6_on_14 ⟨Nat.zero_le _, Nat.zero_le _⟩) hS (fun _ h => h) (fun r_3 M_3 H locs hP hS hz_r_3 hF => ?_)
    refine lv_if_ne (tgt := 24) hx hb dX6_on_17 (by decide) (fun c_4 => ?_) (fun c_4 => ?_)
    · have hF := hF.2 c_4
      refine lv_aload_n hx hb dX6_on_24 rfl (lv_at hl 0 rfl) ?_
      refine gF S hK hP i6 e_R rfl 3 (by decide) k37 f_R_lengths dX6_on_25 ?_
      refine lv_aload_n hx hb dX6_on_28 rfl (lv_at hl 0 rfl) ?_
      refine gF S hK hP i6 e_R rfl 2 (by decide) k30 f_R_here dX6_on_29 ?_
      refine lv_aload_n hx hb dX6_on_32 rfl (lv_at hl 0 rfl) ?_
      refine gF S hK hP i6 e_R rfl 2 (by decide) k30 f_R_here dX6_on_33 ?_
      refine gN S hK hP i2 e_P rfl 2 (by decide) nw_RX6_135 f_P_bars dX6_on_36 ?_
      refine goV (rV (rest := []) S hK hP (ctX1_comeByBars l D cI cJ ad had 0 (by decide) 15 rfl _ _ hF) (cwV 2 hts gX6_on_X1_comeByBars rfl rfl rfl hdV_X1_comeByBars ⟨Nat.le_of_ble_eq_true rfl, Nat.le_of_ble_eq_true rfl⟩) (e_L (o := 0) (by decide)) rfl rfl hl.1 rfl (Nat.le_of_ble_eq_true rfl) dX6_on_39 ⟨Nat.zero_le _, Nat.zero_le _⟩) hS (fun _ h => h) (fun M_5 H locs hP hS hF => ?_)
      refine lv_ldc2 (v := 12) hx hb hown (hts (.constantLong RX6 181 (12)) (by decide +kernel)) dX6_on_42 ?_
      refine lv_aload_n hx hb dX6_on_45 rfl (lv_at hl 0 rfl) ?_
      refine gF S hK hP i6 e_R rfl 3 (by decide) k37 f_R_lengths dX6_on_46 ?_
      refine gN S hK hP i1 (e_L (o := 0) (by decide)) rfl 6 (by decide) nw_RX6_169 f_L_total dX6_on_49 ?_
      refine lv_lmul hx hb dX6_on_52 ?_
      refine lv_lstore_n (lv' := [(3, .long ((12 : Int64) * (gj M_5 0))), (0, .ref (ad 0)), (1, .int a1), (2, .int a2)]) hx hb dX6_on_53 rfl hl (by decide) rfl (fun ls hl => ?_)
      refine lv_lload_n hx hb dX6_on_54 rfl (lv_at hl 0 rfl) ?_
      refine lv_aload_n hx hb dX6_on_55 rfl (lv_at hl 1 rfl) ?_
      refine gF S hK hP i6 e_R rfl 3 (by decide) k37 f_R_lengths dX6_on_56 ?_
      refine lv_aload_n hx hb dX6_on_59 rfl (lv_at hl 1 rfl) ?_
      refine gF S hK hP i6 e_R rfl 2 (by decide) k30 f_R_here dX6_on_60 ?_
      refine gN S hK hP i2 e_P rfl 2 (by decide) nw_RX6_135 f_P_bars dX6_on_63 ?_
      refine lv_iload_n hx hb dX6_on_66 rfl (lv_at hl 2 rfl) ?_
      refine goI (rS (rest := [.ref (ad 4), .long ((12 : Int64) * (gj M_5 0))]) S hK hP (ctX6_at l D cI cJ ad had 15 rfl a1 _ _ hF) (va_cwS 2 hts gX6_on_X6_at rfl rfl rfl hdS_X6_at ⟨Nat.le_of_ble_eq_true rfl, Nat.le_of_ble_eq_true rfl⟩) rfl hl.1 rfl (Nat.le_of_ble_eq_true rfl) dX6_on_67 ⟨Nat.zero_le _, Nat.zero_le _⟩) hS (fun _ h => h) (fun r_6 M_6 H locs hP hS hF => ?_)
      refine goL (rV (rest := [.long ((12 : Int64) * (gj M_5 0))]) S hK hP (ctX1_foundBelow l D cI cJ ad had 0 (by decide) r_6 _ _ hF) (cwV 1 hts gX6_on_X1_foundBelow rfl rfl rfl hdV_X1_foundBelow ⟨Nat.le_of_ble_eq_true rfl, Nat.le_of_ble_eq_true rfl⟩) (e_L (o := 0) (by decide)) rfl rfl hl.1 rfl (Nat.le_of_ble_eq_true rfl) dX6_on_70 ⟨Nat.zero_le _, Nat.zero_le _⟩) hS (fun _ h => h) (fun r_7 M_7 H locs hP hS hF => ?_)
      refine lv_lsub hx hb dX6_on_73 ?_
      refine lv_lload_n hx hb dX6_on_74 rfl (lv_at hl 0 rfl) ?_
      refine lv_iload_n hx hb dX6_on_75 rfl (lv_at hl 3 rfl) ?_
      refine goL (rS (rest := []) S hK hP (ctX6_share l D cI cJ ad had (((12 : Int64) * (gj M_5 0)) - r_7) ((12 : Int64) * (gj M_5 0)) a2 _ _ hF) (va_cwS 3 hts gX6_on_X6_share rfl rfl rfl hdS_X6_share ⟨Nat.le_of_ble_eq_true rfl, Nat.le_of_ble_eq_true rfl⟩) rfl hl.1 rfl (Nat.le_of_ble_eq_true rfl) dX6_on_76 ⟨Nat.zero_le _, Nat.zero_le _⟩) hS (fun _ h => h) (fun r_8 M_8 H locs hP hS hF => ?_)
      exact retL S hr hlocks hP hS hF dX6_on_79
    · have hF := hF.1 c_4
      refine lv_ldc2 (v := -9223372036854775808) hx hb hown (hts (.constantLong RX6 156 (-9223372036854775808)) (by decide +kernel)) dX6_on_20 ?_
      exact retL S hr hlocks hP hS hF dX6_on_23
def wX6_less (a1 : Int32) (a2 : Int32) (Q : Int64 → Mm → Prop) (M : Mm) : Prop := (wX6_isWithin a1 (1 : Int32) (5 : Int32) (fun r_1 M_1 => ((r_1 = 0 → (Q (-9223372036854775808 : Int64) M_1)) ∧ (¬ r_1 = 0 → (wX6_isWithin a2 (0 : Int32) (1 : Int32) (fun r_3 M_3 => ((r_3 = 0 → (Q (-9223372036854775808 : Int64) M_3)) ∧ (¬ r_3 = 0 → (((gi M_3 11) = 0 → (Q (-9223372036854775808 : Int64) M_3)) ∧ (¬ (gi M_3 11) = 0 → (wX1_comeByBars 0 15 (fun M_6 => (wX6_at_ 17 a1 (fun r_7 M_7 => ((r_7 = (0 : Int64) → (Q (-9223372036854775808 : Int64) M_7)) ∧ (¬ r_7 = (0 : Int64) → (wX1_tillLess 0 a1 a2 (fun r_9 M_9 => (Q r_9 M_9)) M_7)))) M_6)) M_3)))))) M_1)))) M)
set_option maxHeartbeats 4000000 in
set_option maxRecDepth 100000 in
theorem ctX6_less (l : Launch) (D : va_G) (cI cJ : ClassId) (ad : Nat → Nat) (had : inj54 ad) (a1 : Int32) (a2 : Int32) (Q : Int64 → Mm → Prop) (M : Mm) (hF : wX6_less a1 a2 Q M) : Met l yX6_less wsX6_less ({ frames := 4, cells := 0, slots := 0, locals := 87 } : Room) (PcW D cI cJ ad M [.ref (ad 0), .int a1, .int a2]) (QlW D cI cJ ad Q) 0 0 (Fr ad) := by
  refine entW (y := yX6_less) (ret := some .long) (maxL := 3) (plainFor_of_name (by decide)) rfl (Nat.le_of_ble_eq_true rfl) ?_
  intro p e s m args below meth c ls S hK hr hlocks hP hS hl
  have hx := S.1
  have hb := S.2.1
  have hown := S.2.2.2.1
  have hts := S.2.2.2.2
  have i6 : ∀ w ∈ wsX60, w ∈ wsX6_less := by decide +kernel
  have i2 : ∀ w ∈ wsX20, w ∈ wsX6_less := by decide +kernel
  have i1 : ∀ w ∈ wsX10, w ∈ wsX6_less := by decide +kernel
  have k30 := hts (.fieldLink RX6 30 "RopeLine" "here" "LRopeLine$Place;") (by decide +kernel)
  have k37 := hts (.fieldLink RX6 37 "RopeLine" "lengths" "LRopeLine$Lengths;") (by decide +kernel)
  have hl : lv_has ls 3 [(0, .ref (ad 0)), (1, .int a1), (2, .int a2)] := hl
  unfold wX6_less at hF
  refine lv_iload_n hx hb dX6_less_0 rfl (lv_at hl 1 rfl) ?_
  refine lv_iconst (v := 1) hx hb dX6_less_1 (by decide) ?_
  refine lv_iconst (v := 5) hx hb dX6_less_2 (by decide) ?_
  refine goZ (rS (rest := []) S hK hP (ctX6_isWithin l D cI cJ ad had a1 (1 : Int32) (5 : Int32) _ _ hF) (va_cwS 3 hts gX6_less_X6_isWithin rfl rfl rfl hdS_X6_isWithin ⟨Nat.le_of_ble_eq_true rfl, Nat.le_of_ble_eq_true rfl⟩) rfl hl.1 rfl (Nat.le_of_ble_eq_true rfl) dX6_less_3 ⟨Nat.zero_le _, Nat.zero_le _⟩) hS (fun _ h => h) (fun r_1 M_1 H locs hP hS hz_r_1 hF => ?_)
  refine lv_if_eq (tgt := 28) hx hb dX6_less_6 (by decide) (fun c_2 => ?_) (fun c_2 => ?_)
  · have hF := hF.1 c_2
    refine lv_ldc2 (v := -9223372036854775808) hx hb hown (hts (.constantLong RX6 156 (-9223372036854775808)) (by decide +kernel)) dX6_less_28 ?_
    exact retL S hr hlocks hP hS hF dX6_less_31
  · have hF := hF.2 c_2
    refine lv_iload_n hx hb dX6_less_9 rfl (lv_at hl 2 rfl) ?_
    refine lv_iconst (v := 0) hx hb dX6_less_10 (by decide) ?_
    refine lv_iconst (v := 1) hx hb dX6_less_11 (by decide) ?_
    refine goZ (rS (rest := []) S hK hP (ctX6_isWithin l D cI cJ ad had a2 (0 : Int32) (1 : Int32) _ _ hF) (va_cwS 3 hts gX6_less_X6_isWithin rfl rfl rfl hdS_X6_isWithin ⟨Nat.le_of_ble_eq_true rfl, Nat.le_of_ble_eq_true rfl⟩) rfl hl.1 rfl (Nat.le_of_ble_eq_true rfl) dX6_less_12 ⟨Nat.zero_le _, Nat.zero_le _⟩) hS (fun _ h => h) (fun r_3 M_3 H locs hP hS hz_r_3 hF => ?_)
    refine lv_if_eq (tgt := 28) hx hb dX6_less_15 (by decide) (fun c_4 => ?_) (fun c_4 => ?_)
    · have hF := hF.1 c_4
      refine lv_ldc2 (v := -9223372036854775808) hx hb hown (hts (.constantLong RX6 156 (-9223372036854775808)) (by decide +kernel)) dX6_less_28 ?_
      exact retL S hr hlocks hP hS hF dX6_less_31
    · have hF := hF.2 c_4
      refine lv_aload_n hx hb dX6_less_18 rfl (lv_at hl 0 rfl) ?_
      refine gF S hK hP i6 e_R rfl 2 (by decide) k30 f_R_here dX6_less_19 ?_
      refine gN S hK hP i2 e_P rfl 3 (by decide) nw_RX6_100 f_P_isTold dX6_less_22 ?_
      refine lv_if_ne (tgt := 32) hx hb dX6_less_25 (by decide) (fun c_5 => ?_) (fun c_5 => ?_)
      · have hF := hF.2 c_5
        refine lv_aload_n hx hb dX6_less_32 rfl (lv_at hl 0 rfl) ?_
        refine gF S hK hP i6 e_R rfl 3 (by decide) k37 f_R_lengths dX6_less_33 ?_
        refine lv_aload_n hx hb dX6_less_36 rfl (lv_at hl 0 rfl) ?_
        refine gF S hK hP i6 e_R rfl 2 (by decide) k30 f_R_here dX6_less_37 ?_
        refine lv_aload_n hx hb dX6_less_40 rfl (lv_at hl 0 rfl) ?_
        refine gF S hK hP i6 e_R rfl 2 (by decide) k30 f_R_here dX6_less_41 ?_
        refine gN S hK hP i2 e_P rfl 2 (by decide) nw_RX6_135 f_P_bars dX6_less_44 ?_
        refine goV (rV (rest := []) S hK hP (ctX1_comeByBars l D cI cJ ad had 0 (by decide) 15 rfl _ _ hF) (cwV 2 hts gX6_less_X1_comeByBars rfl rfl rfl hdV_X1_comeByBars ⟨Nat.le_of_ble_eq_true rfl, Nat.le_of_ble_eq_true rfl⟩) (e_L (o := 0) (by decide)) rfl rfl hl.1 rfl (Nat.le_of_ble_eq_true rfl) dX6_less_47 ⟨Nat.zero_le _, Nat.zero_le _⟩) hS (fun _ h => h) (fun M_6 H locs hP hS hF => ?_)
        refine lv_aload_n hx hb dX6_less_50 rfl (lv_at hl 0 rfl) ?_
        refine gF S hK hP i6 e_R rfl 3 (by decide) k37 f_R_lengths dX6_less_51 ?_
        refine gN S hK hP i1 (e_L (o := 0) (by decide)) rfl 1 (by decide) nw_RX6_162 f_L_weights dX6_less_54 ?_
        refine lv_iload_n hx hb dX6_less_57 rfl (lv_at hl 1 rfl) ?_
        refine goL (rS (rest := []) S hK hP (ctX6_at_ l D cI cJ ad had 17 rfl a1 _ _ hF) (va_cwS 2 hts gX6_less_X6_at_ rfl rfl rfl hdS_X6_at_ ⟨Nat.le_of_ble_eq_true rfl, Nat.le_of_ble_eq_true rfl⟩) rfl hl.1 rfl (Nat.le_of_ble_eq_true rfl) dX6_less_58 ⟨Nat.zero_le _, Nat.zero_le _⟩) hS (fun _ h => h) (fun r_7 M_7 H locs hP hS hF => ?_)
        refine lv_lconst (v := 0) hx hb dX6_less_61 (by decide) ?_
        refine W.lcmp hx hb dX6_less_62 ?_
        refine lv_if_ne (tgt := 70) hx hb dX6_less_63 (by decide) (fun c_8 => ?_) (fun c_8 => ?_)
        · have hF := hF.2 (fun q => c_8 (lc_eq.mpr q))
          refine lv_aload_n hx hb dX6_less_70 rfl (lv_at hl 0 rfl) ?_
          refine gF S hK hP i6 e_R rfl 3 (by decide) k37 f_R_lengths dX6_less_71 ?_
          refine lv_iload_n hx hb dX6_less_74 rfl (lv_at hl 1 rfl) ?_
          refine lv_iload_n hx hb dX6_less_75 rfl (lv_at hl 2 rfl) ?_
          refine goL (rV (rest := []) S hK hP (ctX1_tillLess l D cI cJ ad had 0 (by decide) a1 a2 _ _ hF) (cwV 2 hts gX6_less_X1_tillLess rfl rfl rfl hdV_X1_tillLess ⟨Nat.le_of_ble_eq_true rfl, Nat.le_of_ble_eq_true rfl⟩) (e_L (o := 0) (by decide)) rfl rfl hl.1 rfl (Nat.le_of_ble_eq_true rfl) dX6_less_76 ⟨Nat.zero_le _, Nat.zero_le _⟩) hS (fun _ h => h) (fun r_9 M_9 H locs hP hS hF => ?_)
          exact retL S hr hlocks hP hS hF dX6_less_79
        · have hF := hF.1 (lc_eq.mp c_8)
          refine lv_ldc2 (v := -9223372036854775808) hx hb hown (hts (.constantLong RX6 156 (-9223372036854775808)) (by decide +kernel)) dX6_less_66 ?_
          exact retL S hr hlocks hP hS hF dX6_less_69
      · have hF := hF.1 c_5
        refine lv_ldc2 (v := -9223372036854775808) hx hb hown (hts (.constantLong RX6 156 (-9223372036854775808)) (by decide +kernel)) dX6_less_28 ?_
        exact retL S hr hlocks hP hS hF dX6_less_31
def wX6_after (a1 : Int32) (a2 : Int32) (a3 : Int32) (a4 : Int32) (Q : Int64 → Mm → Prop) (M : Mm) : Prop := (wX6_isWithin a1 (0 : Int32) (8 : Int32) (fun r_1 M_1 => ((r_1 = 0 → (Q (-9223372036854775808 : Int64) M_1)) ∧ (¬ r_1 = 0 → (wX6_isWithin a2 (0 : Int32) (5 : Int32) (fun r_3 M_3 => ((r_3 = 0 → (Q (-9223372036854775808 : Int64) M_3)) ∧ (¬ r_3 = 0 → (wX6_isWithin a3 (0 : Int32) (5 : Int32) (fun r_5 M_5 => ((r_5 = 0 → (Q (-9223372036854775808 : Int64) M_5)) ∧ (¬ r_5 = 0 → (wX6_isWithin a4 (0 : Int32) (1 : Int32) (fun r_7 M_7 => ((r_7 = 0 → (Q (-9223372036854775808 : Int64) M_7)) ∧ (¬ r_7 = 0 → (((gi M_7 11) = 0 → (Q (-9223372036854775808 : Int64) M_7)) ∧ (¬ (gi M_7 11) = 0 → (wX1_comeByBars 0 15 (fun M_10 => (wX1_afterMinutes 0 a1 a2 a3 a4 (fun r_11 M_11 => (Q r_11 M_11)) M_10)) M_7)))))) M_5)))) M_3)))) M_1)))) M)
set_option maxHeartbeats 4000000 in
set_option maxRecDepth 100000 in
theorem ctX6_after (l : Launch) (D : va_G) (cI cJ : ClassId) (ad : Nat → Nat) (had : inj54 ad) (a1 : Int32) (a2 : Int32) (a3 : Int32) (a4 : Int32) (Q : Int64 → Mm → Prop) (M : Mm) (hF : wX6_after a1 a2 a3 a4 Q M) : Met l yX6_after wsX6_after ({ frames := 4, cells := 0, slots := 0, locals := 94 } : Room) (PcW D cI cJ ad M [.ref (ad 0), .int a1, .int a2, .int a3, .int a4]) (QlW D cI cJ ad Q) 0 0 (Fr ad) := by
  refine entW (y := yX6_after) (ret := some .long) (maxL := 5) (plainFor_of_name (by decide)) rfl (Nat.le_of_ble_eq_true rfl) ?_
  intro p e s m args below meth c ls S hK hr hlocks hP hS hl
  have hx := S.1
  have hb := S.2.1
  have hown := S.2.2.2.1
  have hts := S.2.2.2.2
  have i6 : ∀ w ∈ wsX60, w ∈ wsX6_after := by decide +kernel
  have i2 : ∀ w ∈ wsX20, w ∈ wsX6_after := by decide +kernel
  have k30 := hts (.fieldLink RX6 30 "RopeLine" "here" "LRopeLine$Place;") (by decide +kernel)
  have k37 := hts (.fieldLink RX6 37 "RopeLine" "lengths" "LRopeLine$Lengths;") (by decide +kernel)
  have hl : lv_has ls 5 [(0, .ref (ad 0)), (1, .int a1), (2, .int a2), (3, .int a3), (4, .int a4)] := hl
  unfold wX6_after at hF
  refine lv_iload_n hx hb dX6_after_0 rfl (lv_at hl 1 rfl) ?_
  refine lv_iconst (v := 0) hx hb dX6_after_1 (by decide) ?_
  refine lv_bipush (v := 8) hx hb dX6_after_2 (by decide) ?_
  refine goZ (rS (rest := []) S hK hP (ctX6_isWithin l D cI cJ ad had a1 (0 : Int32) (8 : Int32) _ _ hF) (va_cwS 3 hts gX6_after_X6_isWithin rfl rfl rfl hdS_X6_isWithin ⟨Nat.le_of_ble_eq_true rfl, Nat.le_of_ble_eq_true rfl⟩) rfl hl.1 rfl (Nat.le_of_ble_eq_true rfl) dX6_after_4 ⟨Nat.zero_le _, Nat.zero_le _⟩) hS (fun _ h => h) (fun r_1 M_1 H locs hP hS hz_r_1 hF => ?_)
  refine lv_if_eq (tgt := 28) hx hb dX6_after_7 (by decide) (fun c_2 => ?_) (fun c_2 => ?_)
  · have hF := hF.1 c_2
    refine lv_ldc2 (v := -9223372036854775808) hx hb hown (hts (.constantLong RX6 156 (-9223372036854775808)) (by decide +kernel)) dX6_after_28 ?_
    exact retL S hr hlocks hP hS hF dX6_after_31
  · have hF := hF.2 c_2
    refine lv_iload_n hx hb dX6_after_10 rfl (lv_at hl 2 rfl) ?_
    refine lv_iconst (v := 0) hx hb dX6_after_11 (by decide) ?_
    refine lv_iconst (v := 5) hx hb dX6_after_12 (by decide) ?_
    refine goZ (rS (rest := []) S hK hP (ctX6_isWithin l D cI cJ ad had a2 (0 : Int32) (5 : Int32) _ _ hF) (va_cwS 3 hts gX6_after_X6_isWithin rfl rfl rfl hdS_X6_isWithin ⟨Nat.le_of_ble_eq_true rfl, Nat.le_of_ble_eq_true rfl⟩) rfl hl.1 rfl (Nat.le_of_ble_eq_true rfl) dX6_after_13 ⟨Nat.zero_le _, Nat.zero_le _⟩) hS (fun _ h => h) (fun r_3 M_3 H locs hP hS hz_r_3 hF => ?_)
    refine lv_if_eq (tgt := 28) hx hb dX6_after_16 (by decide) (fun c_4 => ?_) (fun c_4 => ?_)
    · have hF := hF.1 c_4
      refine lv_ldc2 (v := -9223372036854775808) hx hb hown (hts (.constantLong RX6 156 (-9223372036854775808)) (by decide +kernel)) dX6_after_28 ?_
      exact retL S hr hlocks hP hS hF dX6_after_31
    · have hF := hF.2 c_4
      refine lv_iload_n hx hb dX6_after_19 rfl (lv_at hl 3 rfl) ?_
      refine lv_iconst (v := 0) hx hb dX6_after_20 (by decide) ?_
      refine lv_iconst (v := 5) hx hb dX6_after_21 (by decide) ?_
      refine goZ (rS (rest := []) S hK hP (ctX6_isWithin l D cI cJ ad had a3 (0 : Int32) (5 : Int32) _ _ hF) (va_cwS 3 hts gX6_after_X6_isWithin rfl rfl rfl hdS_X6_isWithin ⟨Nat.le_of_ble_eq_true rfl, Nat.le_of_ble_eq_true rfl⟩) rfl hl.1 rfl (Nat.le_of_ble_eq_true rfl) dX6_after_22 ⟨Nat.zero_le _, Nat.zero_le _⟩) hS (fun _ h => h) (fun r_5 M_5 H locs hP hS hz_r_5 hF => ?_)
      refine lv_if_ne (tgt := 32) hx hb dX6_after_25 (by decide) (fun c_6 => ?_) (fun c_6 => ?_)
      · have hF := hF.2 c_6
        refine lv_iload hx hb dX6_after_32 (lv_at hl 4 rfl) ?_
        refine lv_iconst (v := 0) hx hb dX6_after_34 (by decide) ?_
        refine lv_iconst (v := 1) hx hb dX6_after_35 (by decide) ?_
        refine goZ (rS (rest := []) S hK hP (ctX6_isWithin l D cI cJ ad had a4 (0 : Int32) (1 : Int32) _ _ hF) (va_cwS 3 hts gX6_after_X6_isWithin rfl rfl rfl hdS_X6_isWithin ⟨Nat.le_of_ble_eq_true rfl, Nat.le_of_ble_eq_true rfl⟩) rfl hl.1 rfl (Nat.le_of_ble_eq_true rfl) dX6_after_36 ⟨Nat.zero_le _, Nat.zero_le _⟩) hS (fun _ h => h) (fun r_7 M_7 H locs hP hS hz_r_7 hF => ?_)
        refine lv_if_eq (tgt := 52) hx hb dX6_after_39 (by decide) (fun c_8 => ?_) (fun c_8 => ?_)
        · have hF := hF.1 c_8
          refine lv_ldc2 (v := -9223372036854775808) hx hb hown (hts (.constantLong RX6 156 (-9223372036854775808)) (by decide +kernel)) dX6_after_52 ?_
          exact retL S hr hlocks hP hS hF dX6_after_55
        · have hF := hF.2 c_8
          refine lv_aload_n hx hb dX6_after_42 rfl (lv_at hl 0 rfl) ?_
          refine gF S hK hP i6 e_R rfl 2 (by decide) k30 f_R_here dX6_after_43 ?_
          refine gN S hK hP i2 e_P rfl 3 (by decide) nw_RX6_100 f_P_isTold dX6_after_46 ?_
          refine lv_if_ne (tgt := 56) hx hb dX6_after_49 (by decide) (fun c_9 => ?_) (fun c_9 => ?_)
          · have hF := hF.2 c_9
            refine lv_aload_n hx hb dX6_after_56 rfl (lv_at hl 0 rfl) ?_
            refine gF S hK hP i6 e_R rfl 3 (by decide) k37 f_R_lengths dX6_after_57 ?_
            refine lv_aload_n hx hb dX6_after_60 rfl (lv_at hl 0 rfl) ?_
            refine gF S hK hP i6 e_R rfl 2 (by decide) k30 f_R_here dX6_after_61 ?_
            refine lv_aload_n hx hb dX6_after_64 rfl (lv_at hl 0 rfl) ?_
            refine gF S hK hP i6 e_R rfl 2 (by decide) k30 f_R_here dX6_after_65 ?_
            refine gN S hK hP i2 e_P rfl 2 (by decide) nw_RX6_135 f_P_bars dX6_after_68 ?_
            refine goV (rV (rest := []) S hK hP (ctX1_comeByBars l D cI cJ ad had 0 (by decide) 15 rfl _ _ hF) (cwV 2 hts gX6_after_X1_comeByBars rfl rfl rfl hdV_X1_comeByBars ⟨Nat.le_of_ble_eq_true rfl, Nat.le_of_ble_eq_true rfl⟩) (e_L (o := 0) (by decide)) rfl rfl hl.1 rfl (Nat.le_of_ble_eq_true rfl) dX6_after_71 ⟨Nat.zero_le _, Nat.zero_le _⟩) hS (fun _ h => h) (fun M_10 H locs hP hS hF => ?_)
            refine lv_aload_n hx hb dX6_after_74 rfl (lv_at hl 0 rfl) ?_
            refine gF S hK hP i6 e_R rfl 3 (by decide) k37 f_R_lengths dX6_after_75 ?_
            refine lv_iload_n hx hb dX6_after_78 rfl (lv_at hl 1 rfl) ?_
            refine lv_iload_n hx hb dX6_after_79 rfl (lv_at hl 2 rfl) ?_
            refine lv_iload_n hx hb dX6_after_80 rfl (lv_at hl 3 rfl) ?_
            refine lv_iload hx hb dX6_after_81 (lv_at hl 4 rfl) ?_
            refine goL (rV (rest := []) S hK hP (ctX1_afterMinutes l D cI cJ ad had 0 (by decide) a1 a2 a3 a4 _ _ hF) (cwV 4 hts gX6_after_X1_afterMinutes rfl rfl rfl hdV_X1_afterMinutes ⟨Nat.le_of_ble_eq_true rfl, Nat.le_of_ble_eq_true rfl⟩) (e_L (o := 0) (by decide)) rfl rfl hl.1 rfl (Nat.le_of_ble_eq_true rfl) dX6_after_83 ⟨Nat.zero_le _, Nat.zero_le _⟩) hS (fun _ h => h) (fun r_11 M_11 H locs hP hS hF => ?_)
            exact retL S hr hlocks hP hS hF dX6_after_86
          · have hF := hF.1 c_9
            refine lv_ldc2 (v := -9223372036854775808) hx hb hown (hts (.constantLong RX6 156 (-9223372036854775808)) (by decide +kernel)) dX6_after_52 ?_
            exact retL S hr hlocks hP hS hF dX6_after_55
      · have hF := hF.1 c_6
        refine lv_ldc2 (v := -9223372036854775808) hx hb hown (hts (.constantLong RX6 156 (-9223372036854775808)) (by decide +kernel)) dX6_after_28 ?_
        exact retL S hr hlocks hP hS hF dX6_after_31
def wX6_minutes (a1 : Int32) (a2 : Int32) (Q : Int64 → Mm → Prop) (M : Mm) : Prop := (wX6_isWithin a1 (0 : Int32) (5 : Int32) (fun r_1 M_1 => ((r_1 = 0 → (Q (-9223372036854775808 : Int64) M_1)) ∧ (¬ r_1 = 0 → (wX6_isWithin a2 (0 : Int32) (2 : Int32) (fun r_3 M_3 => ((r_3 = 0 → (Q (-9223372036854775808 : Int64) M_3)) ∧ (¬ r_3 = 0 → (((gi M_3 11) = 0 → (Q (-9223372036854775808 : Int64) M_3)) ∧ (¬ (gi M_3 11) = 0 → ((a2 = (2 : Int32) → (wX2_minutesAsTold a1 (fun r_8 M_8 => (Q (r_8.toInt64) M_8)) M_3)) ∧ (¬ a2 = (2 : Int32) → (wX6_share (((12 : Int32) * (a1 + (1 : Int32))).toInt64) ((gi M_3 12).toInt64) a2 (fun r_7 M_7 => (Q r_7 M_7)) M_3)))))))) M_1)))) M)
set_option maxHeartbeats 4000000 in
set_option maxRecDepth 100000 in
theorem ctX6_minutes (l : Launch) (D : va_G) (cI cJ : ClassId) (ad : Nat → Nat) (had : inj54 ad) (a1 : Int32) (a2 : Int32) (Q : Int64 → Mm → Prop) (M : Mm) (hF : wX6_minutes a1 a2 Q M) : Met l yX6_minutes wsX6_minutes ({ frames := 2, cells := 0, slots := 0, locals := 56 } : Room) (PcW D cI cJ ad M [.ref (ad 0), .int a1, .int a2]) (QlW D cI cJ ad Q) 0 0 (Fr ad) := by
  refine entW (y := yX6_minutes) (ret := some .long) (maxL := 3) (plainFor_of_name (by decide)) rfl (Nat.le_of_ble_eq_true rfl) ?_
  intro p e s m args below meth c ls S hK hr hlocks hP hS hl
  have hx := S.1
  have hb := S.2.1
  have hown := S.2.2.2.1
  have hts := S.2.2.2.2
  have i6 : ∀ w ∈ wsX60, w ∈ wsX6_minutes := by decide +kernel
  have i2 : ∀ w ∈ wsX20, w ∈ wsX6_minutes := by decide +kernel
  have k30 := hts (.fieldLink RX6 30 "RopeLine" "here" "LRopeLine$Place;") (by decide +kernel)
  have hl : lv_has ls 3 [(0, .ref (ad 0)), (1, .int a1), (2, .int a2)] := hl
  unfold wX6_minutes at hF
  refine lv_iload_n hx hb dX6_minutes_0 rfl (lv_at hl 1 rfl) ?_
  refine lv_iconst (v := 0) hx hb dX6_minutes_1 (by decide) ?_
  refine lv_iconst (v := 5) hx hb dX6_minutes_2 (by decide) ?_
  refine goZ (rS (rest := []) S hK hP (ctX6_isWithin l D cI cJ ad had a1 (0 : Int32) (5 : Int32) _ _ hF) (va_cwS 3 hts gX6_minutes_X6_isWithin rfl rfl rfl hdS_X6_isWithin ⟨Nat.le_of_ble_eq_true rfl, Nat.le_of_ble_eq_true rfl⟩) rfl hl.1 rfl (Nat.le_of_ble_eq_true rfl) dX6_minutes_3 ⟨Nat.zero_le _, Nat.zero_le _⟩) hS (fun _ h => h) (fun r_1 M_1 H locs hP hS hz_r_1 hF => ?_)
  refine lv_if_eq (tgt := 28) hx hb dX6_minutes_6 (by decide) (fun c_2 => ?_) (fun c_2 => ?_)
  · have hF := hF.1 c_2
    refine lv_ldc2 (v := -9223372036854775808) hx hb hown (hts (.constantLong RX6 156 (-9223372036854775808)) (by decide +kernel)) dX6_minutes_28 ?_
    exact retL S hr hlocks hP hS hF dX6_minutes_31
  · have hF := hF.2 c_2
    refine lv_iload_n hx hb dX6_minutes_9 rfl (lv_at hl 2 rfl) ?_
    refine lv_iconst (v := 0) hx hb dX6_minutes_10 (by decide) ?_
    refine lv_iconst (v := 2) hx hb dX6_minutes_11 (by decide) ?_
    refine goZ (rS (rest := []) S hK hP (ctX6_isWithin l D cI cJ ad had a2 (0 : Int32) (2 : Int32) _ _ hF) (va_cwS 3 hts gX6_minutes_X6_isWithin rfl rfl rfl hdS_X6_isWithin ⟨Nat.le_of_ble_eq_true rfl, Nat.le_of_ble_eq_true rfl⟩) rfl hl.1 rfl (Nat.le_of_ble_eq_true rfl) dX6_minutes_12 ⟨Nat.zero_le _, Nat.zero_le _⟩) hS (fun _ h => h) (fun r_3 M_3 H locs hP hS hz_r_3 hF => ?_)
    refine lv_if_eq (tgt := 28) hx hb dX6_minutes_15 (by decide) (fun c_4 => ?_) (fun c_4 => ?_)
    · have hF := hF.1 c_4
      refine lv_ldc2 (v := -9223372036854775808) hx hb hown (hts (.constantLong RX6 156 (-9223372036854775808)) (by decide +kernel)) dX6_minutes_28 ?_
      exact retL S hr hlocks hP hS hF dX6_minutes_31
    · have hF := hF.2 c_4
      refine lv_aload_n hx hb dX6_minutes_18 rfl (lv_at hl 0 rfl) ?_
      refine gF S hK hP i6 e_R rfl 2 (by decide) k30 f_R_here dX6_minutes_19 ?_
      refine gN S hK hP i2 e_P rfl 3 (by decide) nw_RX6_100 f_P_isTold dX6_minutes_22 ?_
      refine lv_if_ne (tgt := 32) hx hb dX6_minutes_25 (by decide) (fun c_5 => ?_) (fun c_5 => ?_)
      · have hF := hF.2 c_5
        refine lv_iload_n hx hb dX6_minutes_32 rfl (lv_at hl 2 rfl) ?_
        refine lv_iconst (v := 2) hx hb dX6_minutes_33 (by decide) ?_
        refine lv_icmp_ne (tgt := 47) hx hb dX6_minutes_34 (by decide) (fun c_6 => ?_) (fun c_6 => ?_)
        · have hF := hF.2 c_6
          refine lv_bipush (v := 12) hx hb dX6_minutes_47 (by decide) ?_
          refine lv_iload_n hx hb dX6_minutes_49 rfl (lv_at hl 1 rfl) ?_
          refine lv_iconst (v := 1) hx hb dX6_minutes_50 (by decide) ?_
          refine lv_iadd hx hb dX6_minutes_51 ?_
          refine lv_imul hx hb dX6_minutes_52 ?_
          refine lv_i2l hx hb dX6_minutes_53 rfl ?_
          refine lv_aload_n hx hb dX6_minutes_54 rfl (lv_at hl 0 rfl) ?_
          refine gF S hK hP i6 e_R rfl 2 (by decide) k30 f_R_here dX6_minutes_55 ?_
          refine gN S hK hP i2 e_P rfl 4 (by decide) nw_RX6_104 f_P_served dX6_minutes_58 ?_
          refine lv_i2l hx hb dX6_minutes_61 rfl ?_
          refine lv_iload_n hx hb dX6_minutes_62 rfl (lv_at hl 2 rfl) ?_
          refine goL (rS (rest := []) S hK hP (ctX6_share l D cI cJ ad had (((12 : Int32) * (a1 + (1 : Int32))).toInt64) ((gi M_3 12).toInt64) a2 _ _ hF) (va_cwS 3 hts gX6_minutes_X6_share rfl rfl rfl hdS_X6_share ⟨Nat.le_of_ble_eq_true rfl, Nat.le_of_ble_eq_true rfl⟩) rfl hl.1 rfl (Nat.le_of_ble_eq_true rfl) dX6_minutes_63 ⟨Nat.zero_le _, Nat.zero_le _⟩) hS (fun _ h => h) (fun r_7 M_7 H locs hP hS hF => ?_)
          exact retL S hr hlocks hP hS hF dX6_minutes_66
        · have hF := hF.1 c_6
          refine lv_aload_n hx hb dX6_minutes_37 rfl (lv_at hl 0 rfl) ?_
          refine gF S hK hP i6 e_R rfl 2 (by decide) k30 f_R_here dX6_minutes_38 ?_
          refine lv_iload_n hx hb dX6_minutes_41 rfl (lv_at hl 1 rfl) ?_
          refine goI (rV (rest := []) S hK hP (ctX2_minutesAsTold l D cI cJ ad had a1 _ _ hF) (cwV 1 hts gX6_minutes_X2_minutesAsTold rfl rfl rfl hdV_X2_minutesAsTold ⟨Nat.le_of_ble_eq_true rfl, Nat.le_of_ble_eq_true rfl⟩) e_P rfl rfl hl.1 rfl (Nat.le_of_ble_eq_true rfl) dX6_minutes_42 ⟨Nat.zero_le _, Nat.zero_le _⟩) hS (fun _ h => h) (fun r_8 M_8 H locs hP hS hF => ?_)
          refine lv_i2l hx hb dX6_minutes_45 rfl ?_
          exact retL S hr hlocks hP hS hF dX6_minutes_46
      · have hF := hF.1 c_5
        refine lv_ldc2 (v := -9223372036854775808) hx hb hown (hts (.constantLong RX6 156 (-9223372036854775808)) (by decide +kernel)) dX6_minutes_28 ?_
        exact retL S hr hlocks hP hS hF dX6_minutes_31
def wX6_gain (a1 : Int32) (Q : Int64 → Mm → Prop) (M : Mm) : Prop := (wX6_isWithin a1 (0 : Int32) (1 : Int32) (fun r_1 M_1 => ((r_1 = 0 → (Q (-9223372036854775808 : Int64) M_1)) ∧ (¬ r_1 = 0 → (((gi M_1 11) = 0 → (Q (-9223372036854775808 : Int64) M_1)) ∧ (¬ (gi M_1 11) = 0 → (wX0_reckon 15 (fun M_4 => (wX6_share (gj M_4 2) (gj M_4 3) a1 (fun r_5 M_5 => (Q r_5 M_5)) M_4)) M_1)))))) M)
set_option maxHeartbeats 4000000 in
set_option maxRecDepth 100000 in
theorem ctX6_gain (l : Launch) (D : va_G) (cI cJ : ClassId) (ad : Nat → Nat) (had : inj54 ad) (a1 : Int32) (Q : Int64 → Mm → Prop) (M : Mm) (hF : wX6_gain a1 Q M) : Met l yX6_gain wsX6_gain ({ frames := 5, cells := 0, slots := 0, locals := 112 } : Room) (PcW D cI cJ ad M [.ref (ad 0), .int a1]) (QlW D cI cJ ad Q) 0 0 (Fr ad) := by
  refine entW (y := yX6_gain) (ret := some .long) (maxL := 2) (plainFor_of_name (by decide)) rfl (Nat.le_of_ble_eq_true rfl) ?_
  intro p e s m args below meth c ls S hK hr hlocks hP hS hl
  have hx := S.1
  have hb := S.2.1
  have hown := S.2.2.2.1
  have hts := S.2.2.2.2
  have i6 : ∀ w ∈ wsX60, w ∈ wsX6_gain := by decide +kernel
  have i2 : ∀ w ∈ wsX20, w ∈ wsX6_gain := by decide +kernel
  have i0 : ∀ w ∈ wsX00, w ∈ wsX6_gain := by decide +kernel
  have k30 := hts (.fieldLink RX6 30 "RopeLine" "here" "LRopeLine$Place;") (by decide +kernel)
  have k44 := hts (.fieldLink RX6 44 "RopeLine" "gains" "LRopeLine$Gains;") (by decide +kernel)
  have hl : lv_has ls 2 [(0, .ref (ad 0)), (1, .int a1)] := hl
  unfold wX6_gain at hF
  refine lv_iload_n hx hb dX6_gain_0 rfl (lv_at hl 1 rfl) ?_
  refine lv_iconst (v := 0) hx hb dX6_gain_1 (by decide) ?_
  refine lv_iconst (v := 1) hx hb dX6_gain_2 (by decide) ?_
  refine goZ (rS (rest := []) S hK hP (ctX6_isWithin l D cI cJ ad had a1 (0 : Int32) (1 : Int32) _ _ hF) (va_cwS 3 hts gX6_gain_X6_isWithin rfl rfl rfl hdS_X6_isWithin ⟨Nat.le_of_ble_eq_true rfl, Nat.le_of_ble_eq_true rfl⟩) rfl hl.1 rfl (Nat.le_of_ble_eq_true rfl) dX6_gain_3 ⟨Nat.zero_le _, Nat.zero_le _⟩) hS (fun _ h => h) (fun r_1 M_1 H locs hP hS hz_r_1 hF => ?_)
  refine lv_if_eq (tgt := 19) hx hb dX6_gain_6 (by decide) (fun c_2 => ?_) (fun c_2 => ?_)
  · have hF := hF.1 c_2
    refine lv_ldc2 (v := -9223372036854775808) hx hb hown (hts (.constantLong RX6 156 (-9223372036854775808)) (by decide +kernel)) dX6_gain_19 ?_
    exact retL S hr hlocks hP hS hF dX6_gain_22
  · have hF := hF.2 c_2
    refine lv_aload_n hx hb dX6_gain_9 rfl (lv_at hl 0 rfl) ?_
    refine gF S hK hP i6 e_R rfl 2 (by decide) k30 f_R_here dX6_gain_10 ?_
    refine gN S hK hP i2 e_P rfl 3 (by decide) nw_RX6_100 f_P_isTold dX6_gain_13 ?_
    refine lv_if_ne (tgt := 23) hx hb dX6_gain_16 (by decide) (fun c_3 => ?_) (fun c_3 => ?_)
    · have hF := hF.2 c_3
      refine lv_aload_n hx hb dX6_gain_23 rfl (lv_at hl 0 rfl) ?_
      refine gF S hK hP i6 e_R rfl 4 (by decide) k44 f_R_gains dX6_gain_24 ?_
      refine lv_aload_n hx hb dX6_gain_27 rfl (lv_at hl 0 rfl) ?_
      refine gF S hK hP i6 e_R rfl 2 (by decide) k30 f_R_here dX6_gain_28 ?_
      refine lv_aload_n hx hb dX6_gain_31 rfl (lv_at hl 0 rfl) ?_
      refine gF S hK hP i6 e_R rfl 2 (by decide) k30 f_R_here dX6_gain_32 ?_
      refine gN S hK hP i2 e_P rfl 2 (by decide) nw_RX6_135 f_P_bars dX6_gain_35 ?_
      refine goV (rV (rest := []) S hK hP (ctX0_reckon l D cI cJ ad had 15 rfl _ _ hF) (cwV 2 hts gX6_gain_X0_reckon rfl rfl rfl hdV_X0_reckon ⟨Nat.le_of_ble_eq_true rfl, Nat.le_of_ble_eq_true rfl⟩) e_G rfl rfl hl.1 rfl (Nat.le_of_ble_eq_true rfl) dX6_gain_38 ⟨Nat.zero_le _, Nat.zero_le _⟩) hS (fun _ h => h) (fun M_4 H locs hP hS hF => ?_)
      refine lv_aload_n hx hb dX6_gain_41 rfl (lv_at hl 0 rfl) ?_
      refine gF S hK hP i6 e_R rfl 4 (by decide) k44 f_R_gains dX6_gain_42 ?_
      refine gN S hK hP i0 e_G rfl 4 (by decide) nw_RX6_201 f_G_upper dX6_gain_45 ?_
      refine lv_aload_n hx hb dX6_gain_48 rfl (lv_at hl 0 rfl) ?_
      refine gF S hK hP i6 e_R rfl 4 (by decide) k44 f_R_gains dX6_gain_49 ?_
      refine gN S hK hP i0 e_G rfl 5 (by decide) nw_RX6_204 f_G_lower dX6_gain_52 ?_
      refine lv_iload_n hx hb dX6_gain_55 rfl (lv_at hl 1 rfl) ?_
      refine goL (rS (rest := []) S hK hP (ctX6_share l D cI cJ ad had (gj M_4 2) (gj M_4 3) a1 _ _ hF) (va_cwS 3 hts gX6_gain_X6_share rfl rfl rfl hdS_X6_share ⟨Nat.le_of_ble_eq_true rfl, Nat.le_of_ble_eq_true rfl⟩) rfl hl.1 rfl (Nat.le_of_ble_eq_true rfl) dX6_gain_56 ⟨Nat.zero_le _, Nat.zero_le _⟩) hS (fun _ h => h) (fun r_5 M_5 H locs hP hS hF => ?_)
      exact retL S hr hlocks hP hS hF dX6_gain_59
    · have hF := hF.1 c_3
      refine lv_ldc2 (v := -9223372036854775808) hx hb hown (hts (.constantLong RX6 156 (-9223372036854775808)) (by decide +kernel)) dX6_gain_19 ?_
      exact retL S hr hlocks hP hS hF dX6_gain_22
def wX6_best (a1 : Int32) (Q : Int32 → Mm → Prop) (M : Mm) : Prop := (wX2_has a1 (fun r_1 M_1 => ((r_1 = 0 → (Q (-1 : Int32) M_1)) ∧ (¬ r_1 = 0 → (wX0_knowBest (fun M_3 => (wX6_at 25 a1 (fun r_4 M_4 => (Q r_4 M_4)) M_3)) M_1)))) M)
set_option maxHeartbeats 4000000 in
set_option maxRecDepth 100000 in
theorem ctX6_best (l : Launch) (D : va_G) (cI cJ : ClassId) (ad : Nat → Nat) (had : inj54 ad) (a1 : Int32) (Q : Int32 → Mm → Prop) (M : Mm) (hF : wX6_best a1 Q M) : Met l yX6_best wsX6_best ({ frames := 6, cells := 0, slots := 0, locals := 140 } : Room) (PcW D cI cJ ad M [.ref (ad 0), .int a1]) (QiW D cI cJ ad Q) 0 0 (Fr ad) := by
  refine entW (y := yX6_best) (ret := some .int) (maxL := 2) (plainFor_of_name (by decide)) rfl (Nat.le_of_ble_eq_true rfl) ?_
  intro p e s m args below meth c ls S hK hr hlocks hP hS hl
  have hx := S.1
  have hb := S.2.1
  have hown := S.2.2.2.1
  have hts := S.2.2.2.2
  have i6 : ∀ w ∈ wsX60, w ∈ wsX6_best := by decide +kernel
  have i0 : ∀ w ∈ wsX00, w ∈ wsX6_best := by decide +kernel
  have k30 := hts (.fieldLink RX6 30 "RopeLine" "here" "LRopeLine$Place;") (by decide +kernel)
  have k44 := hts (.fieldLink RX6 44 "RopeLine" "gains" "LRopeLine$Gains;") (by decide +kernel)
  have hl : lv_has ls 2 [(0, .ref (ad 0)), (1, .int a1)] := hl
  unfold wX6_best at hF
  refine lv_aload_n hx hb dX6_best_0 rfl (lv_at hl 0 rfl) ?_
  refine gF S hK hP i6 e_R rfl 2 (by decide) k30 f_R_here dX6_best_1 ?_
  refine lv_iload_n hx hb dX6_best_4 rfl (lv_at hl 1 rfl) ?_
  refine goZ (rV (rest := []) S hK hP (ctX2_has l D cI cJ ad had a1 _ _ hF) (cwV 1 hts gX6_best_X2_has rfl rfl rfl hdV_X2_has ⟨Nat.le_of_ble_eq_true rfl, Nat.le_of_ble_eq_true rfl⟩) e_P rfl rfl hl.1 rfl (Nat.le_of_ble_eq_true rfl) dX6_best_5 ⟨Nat.zero_le _, Nat.zero_le _⟩) hS (fun _ h => h) (fun r_1 M_1 H locs hP hS hz_r_1 hF => ?_)
  refine lv_if_ne (tgt := 13) hx hb dX6_best_8 (by decide) (fun c_2 => ?_) (fun c_2 => ?_)
  · have hF := hF.2 c_2
    refine lv_aload_n hx hb dX6_best_13 rfl (lv_at hl 0 rfl) ?_
    refine gF S hK hP i6 e_R rfl 4 (by decide) k44 f_R_gains dX6_best_14 ?_
    refine lv_aload_n hx hb dX6_best_17 rfl (lv_at hl 0 rfl) ?_
    refine gF S hK hP i6 e_R rfl 2 (by decide) k30 f_R_here dX6_best_18 ?_
    refine goV (rV (rest := []) S hK hP (ctX0_knowBest l D cI cJ ad had  _ _ hF) (cwV 1 hts gX6_best_X0_knowBest rfl rfl rfl hdV_X0_knowBest ⟨Nat.le_of_ble_eq_true rfl, Nat.le_of_ble_eq_true rfl⟩) e_G rfl rfl hl.1 rfl (Nat.le_of_ble_eq_true rfl) dX6_best_21 ⟨Nat.zero_le _, Nat.zero_le _⟩) hS (fun _ h => h) (fun M_3 H locs hP hS hF => ?_)
    refine lv_aload_n hx hb dX6_best_24 rfl (lv_at hl 0 rfl) ?_
    refine gF S hK hP i6 e_R rfl 4 (by decide) k44 f_R_gains dX6_best_25 ?_
    refine gN S hK hP i0 e_G rfl 2 (by decide) nw_RX6_153 f_G_bestRow dX6_best_28 ?_
    refine lv_iload_n hx hb dX6_best_31 rfl (lv_at hl 1 rfl) ?_
    refine goI (rS (rest := []) S hK hP (ctX6_at l D cI cJ ad had 25 rfl a1 _ _ hF) (va_cwS 2 hts gX6_best_X6_at rfl rfl rfl hdS_X6_at ⟨Nat.le_of_ble_eq_true rfl, Nat.le_of_ble_eq_true rfl⟩) rfl hl.1 rfl (Nat.le_of_ble_eq_true rfl) dX6_best_32 ⟨Nat.zero_le _, Nat.zero_le _⟩) hS (fun _ h => h) (fun r_4 M_4 H locs hP hS hF => ?_)
    exact retI S hr hlocks hP hS hF dX6_best_35
  · have hF := hF.1 c_2
    refine lv_iconst (v := -1) hx hb dX6_best_11 (by decide) ?_
    exact retI S hr hlocks hP hS hF dX6_best_12
def wX6_against (a1 : Int32) (a2 : Int32) (Q : Int32 → Mm → Prop) (M : Mm) : Prop := (wX6_rowsOf (gi M 14) (fun r_1 M_1 => (wX6_isWithin a1 (0 : Int32) (r_1 - (1 : Int32)) (fun r_2 M_2 => ((r_2 = 0 → (Q (-2 : Int32) M_2)) ∧ (¬ r_2 = 0 → (wX6_isWithin a2 (0 : Int32) (r_1 - (1 : Int32)) (fun r_4 M_4 => ((r_4 = 0 → (Q (-2 : Int32) M_4)) ∧ (¬ r_4 = 0 → (((gi M_4 11) = 0 → (Q (-3 : Int32) M_4)) ∧ (¬ (gi M_4 11) = 0 → (wX0_rowBecomes a1 (fun M_7 => (wX0_reckon 24 (fun M_8 => (wX0_rowBecomes a2 (fun M_9 => (wX0_reckon 24 (fun M_10 => (wX6_compareShares (gj M_8 2) (gj M_8 3) (gj M_10 2) (gj M_10 3) (fun r_11 M_11 => (Q r_11 M_11)) M_10)) M_9)) M_8)) M_7)) M_4)))))) M_2)))) M_1)) M)
set_option maxHeartbeats 4000000 in
set_option maxRecDepth 100000 in
theorem ctX6_against (l : Launch) (D : va_G) (cI cJ : ClassId) (ad : Nat → Nat) (had : inj54 ad) (a1 : Int32) (a2 : Int32) (Q : Int32 → Mm → Prop) (M : Mm) (hF : wX6_against a1 a2 Q M) : Met l yX6_against wsX6_against ({ frames := 5, cells := 0, slots := 0, locals := 112 } : Room) (PcW D cI cJ ad M [.ref (ad 0), .int a1, .int a2]) (QiW D cI cJ ad Q) 0 0 (Fr ad) := by
  refine entW (y := yX6_against) (ret := some .int) (maxL := 8) (plainFor_of_name (by decide)) rfl (Nat.le_of_ble_eq_true rfl) ?_
  intro p e s m args below meth c ls S hK hr hlocks hP hS hl
  have hx := S.1
  have hb := S.2.1
  have hown := S.2.2.2.1
  have hts := S.2.2.2.2
  have i6 : ∀ w ∈ wsX60, w ∈ wsX6_against := by decide +kernel
  have i2 : ∀ w ∈ wsX20, w ∈ wsX6_against := by decide +kernel
  have i0 : ∀ w ∈ wsX00, w ∈ wsX6_against := by decide +kernel
  have k30 := hts (.fieldLink RX6 30 "RopeLine" "here" "LRopeLine$Place;") (by decide +kernel)
  have k44 := hts (.fieldLink RX6 44 "RopeLine" "gains" "LRopeLine$Gains;") (by decide +kernel)
  have hl : lv_has ls 8 [(0, .ref (ad 0)), (1, .int a1), (2, .int a2)] := hl
  unfold wX6_against at hF
  refine lv_aload_n hx hb dX6_against_0 rfl (lv_at hl 0 rfl) ?_
  refine gF S hK hP i6 e_R rfl 2 (by decide) k30 f_R_here dX6_against_1 ?_
  refine gN S hK hP i2 e_P rfl 6 (by decide) nw_RX6_97 f_P_sorts dX6_against_4 ?_
  refine goI (rS (rest := []) S hK hP (ctX6_rowsOf l D cI cJ ad had (gi M 14) _ _ hF) (va_cwS 1 hts gX6_against_X6_rowsOf rfl rfl rfl hdS_X6_rowsOf ⟨Nat.le_of_ble_eq_true rfl, Nat.le_of_ble_eq_true rfl⟩) rfl hl.1 rfl (Nat.le_of_ble_eq_true rfl) dX6_against_7 ⟨Nat.zero_le _, Nat.zero_le _⟩) hS (fun _ h => h) (fun r_1 M_1 H locs hP hS hF => ?_)
  refine lv_iconst (v := 1) hx hb dX6_against_10 (by decide) ?_
  refine lv_isub hx hb dX6_against_11 ?_
  refine lv_istore_n (lv' := [(3, .int (r_1 - (1 : Int32))), (0, .ref (ad 0)), (1, .int a1), (2, .int a2)]) hx hb dX6_against_12 rfl hl (by decide) rfl (fun ls hl => ?_)
  refine lv_iload_n hx hb dX6_against_13 rfl (lv_at hl 2 rfl) ?_
  refine lv_iconst (v := 0) hx hb dX6_against_14 (by decide) ?_
  refine lv_iload_n hx hb dX6_against_15 rfl (lv_at hl 0 rfl) ?_
  refine goZ (rS (rest := []) S hK hP (ctX6_isWithin l D cI cJ ad had a1 (0 : Int32) (r_1 - (1 : Int32)) _ _ hF) (va_cwS 3 hts gX6_against_X6_isWithin rfl rfl rfl hdS_X6_isWithin ⟨Nat.le_of_ble_eq_true rfl, Nat.le_of_ble_eq_true rfl⟩) rfl hl.1 rfl (Nat.le_of_ble_eq_true rfl) dX6_against_16 ⟨Nat.zero_le _, Nat.zero_le _⟩) hS (fun _ h => h) (fun r_2 M_2 H locs hP hS hz_r_2 hF => ?_)
  refine lv_if_eq (tgt := 31) hx hb dX6_against_19 (by decide) (fun c_3 => ?_) (fun c_3 => ?_)
  · have hF := hF.1 c_3
    refine lv_bipush (v := -2) hx hb dX6_against_31 (by decide) ?_
    exact retI S hr hlocks hP hS hF dX6_against_33
  · have hF := hF.2 c_3
    refine lv_iload_n hx hb dX6_against_22 rfl (lv_at hl 3 rfl) ?_
    refine lv_iconst (v := 0) hx hb dX6_against_23 (by decide) ?_
    refine lv_iload_n hx hb dX6_against_24 rfl (lv_at hl 0 rfl) ?_
    refine goZ (rS (rest := []) S hK hP (ctX6_isWithin l D cI cJ ad had a2 (0 : Int32) (r_1 - (1 : Int32)) _ _ hF) (va_cwS 3 hts gX6_against_X6_isWithin rfl rfl rfl hdS_X6_isWithin ⟨Nat.le_of_ble_eq_true rfl, Nat.le_of_ble_eq_true rfl⟩) rfl hl.1 rfl (Nat.le_of_ble_eq_true rfl) dX6_against_25 ⟨Nat.zero_le _, Nat.zero_le _⟩) hS (fun _ h => h) (fun r_4 M_4 H locs hP hS hz_r_4 hF => ?_)
    refine lv_if_ne (tgt := 34) hx hb dX6_against_28 (by decide) (fun c_5 => ?_) (fun c_5 => ?_)
    · have hF := hF.2 c_5
      refine lv_aload_n hx hb dX6_against_34 rfl (lv_at hl 1 rfl) ?_
      refine gF S hK hP i6 e_R rfl 2 (by decide) k30 f_R_here dX6_against_35 ?_
      refine gN S hK hP i2 e_P rfl 3 (by decide) nw_RX6_100 f_P_isTold dX6_against_38 ?_
      refine lv_if_ne (tgt := 47) hx hb dX6_against_41 (by decide) (fun c_6 => ?_) (fun c_6 => ?_)
      · have hF := hF.2 c_6
        refine lv_aload_n hx hb dX6_against_47 rfl (lv_at hl 1 rfl) ?_
        refine gF S hK hP i6 e_R rfl 4 (by decide) k44 f_R_gains dX6_against_48 ?_
        refine lv_aload_n hx hb dX6_against_51 rfl (lv_at hl 1 rfl) ?_
        refine gF S hK hP i6 e_R rfl 2 (by decide) k30 f_R_here dX6_against_52 ?_
        refine lv_iload_n hx hb dX6_against_55 rfl (lv_at hl 2 rfl) ?_
        refine goV (rV (rest := []) S hK hP (ctX0_rowBecomes l D cI cJ ad had a1 _ _ hF) (cwV 2 hts gX6_against_X0_rowBecomes rfl rfl rfl hdV_X0_rowBecomes ⟨Nat.le_of_ble_eq_true rfl, Nat.le_of_ble_eq_true rfl⟩) e_G rfl rfl hl.1 rfl (Nat.le_of_ble_eq_true rfl) dX6_against_56 ⟨Nat.zero_le _, Nat.zero_le _⟩) hS (fun _ h => h) (fun M_7 H locs hP hS hF => ?_)
        refine lv_aload_n hx hb dX6_against_59 rfl (lv_at hl 1 rfl) ?_
        refine gF S hK hP i6 e_R rfl 4 (by decide) k44 f_R_gains dX6_against_60 ?_
        refine lv_aload_n hx hb dX6_against_63 rfl (lv_at hl 1 rfl) ?_
        refine gF S hK hP i6 e_R rfl 2 (by decide) k30 f_R_here dX6_against_64 ?_
        refine lv_aload_n hx hb dX6_against_67 rfl (lv_at hl 1 rfl) ?_
        refine gF S hK hP i6 e_R rfl 4 (by decide) k44 f_R_gains dX6_against_68 ?_
        refine gN S hK hP i0 e_G rfl 1 (by decide) nw_RX6_214 f_G_row dX6_against_71 ?_
        refine goV (rV (rest := []) S hK hP (ctX0_reckon l D cI cJ ad had 24 rfl _ _ hF) (cwV 2 hts gX6_against_X0_reckon rfl rfl rfl hdV_X0_reckon ⟨Nat.le_of_ble_eq_true rfl, Nat.le_of_ble_eq_true rfl⟩) e_G rfl rfl hl.1 rfl (Nat.le_of_ble_eq_true rfl) dX6_against_74 ⟨Nat.zero_le _, Nat.zero_le _⟩) hS (fun _ h => h) (fun M_8 H locs hP hS hF => ?_)
        refine lv_aload_n hx hb dX6_against_77 rfl (lv_at hl 1 rfl) ?_
        refine gF S hK hP i6 e_R rfl 4 (by decide) k44 f_R_gains dX6_against_78 ?_
        refine gN S hK hP i0 e_G rfl 4 (by decide) nw_RX6_201 f_G_upper dX6_against_81 ?_
        refine lv_lstore (lv' := [(4, .long (gj M_8 2)), (3, .int (r_1 - (1 : Int32))), (0, .ref (ad 0)), (1, .int a1), (2, .int a2)]) hx hb dX6_against_84 hl (by decide) rfl (fun ls hl => ?_)
        refine lv_aload_n hx hb dX6_against_86 rfl (lv_at hl 2 rfl) ?_
        refine gF S hK hP i6 e_R rfl 4 (by decide) k44 f_R_gains dX6_against_87 ?_
        refine gN S hK hP i0 e_G rfl 5 (by decide) nw_RX6_204 f_G_lower dX6_against_90 ?_
        refine lv_lstore (lv' := [(6, .long (gj M_8 3)), (4, .long (gj M_8 2)), (3, .int (r_1 - (1 : Int32))), (0, .ref (ad 0)), (1, .int a1), (2, .int a2)]) hx hb dX6_against_93 hl (by decide) rfl (fun ls hl => ?_)
        refine lv_aload_n hx hb dX6_against_95 rfl (lv_at hl 3 rfl) ?_
        refine gF S hK hP i6 e_R rfl 4 (by decide) k44 f_R_gains dX6_against_96 ?_
        refine lv_aload_n hx hb dX6_against_99 rfl (lv_at hl 3 rfl) ?_
        refine gF S hK hP i6 e_R rfl 2 (by decide) k30 f_R_here dX6_against_100 ?_
        refine lv_iload_n hx hb dX6_against_103 rfl (lv_at hl 5 rfl) ?_
        refine goV (rV (rest := []) S hK hP (ctX0_rowBecomes l D cI cJ ad had a2 _ _ hF) (cwV 2 hts gX6_against_X0_rowBecomes rfl rfl rfl hdV_X0_rowBecomes ⟨Nat.le_of_ble_eq_true rfl, Nat.le_of_ble_eq_true rfl⟩) e_G rfl rfl hl.1 rfl (Nat.le_of_ble_eq_true rfl) dX6_against_104 ⟨Nat.zero_le _, Nat.zero_le _⟩) hS (fun _ h => h) (fun M_9 H locs hP hS hF => ?_)
        refine lv_aload_n hx hb dX6_against_107 rfl (lv_at hl 3 rfl) ?_
        refine gF S hK hP i6 e_R rfl 4 (by decide) k44 f_R_gains dX6_against_108 ?_
        refine lv_aload_n hx hb dX6_against_111 rfl (lv_at hl 3 rfl) ?_
        refine gF S hK hP i6 e_R rfl 2 (by decide) k30 f_R_here dX6_against_112 ?_
        refine lv_aload_n hx hb dX6_against_115 rfl (lv_at hl 3 rfl) ?_
        refine gF S hK hP i6 e_R rfl 4 (by decide) k44 f_R_gains dX6_against_116 ?_
        refine gN S hK hP i0 e_G rfl 1 (by decide) nw_RX6_214 f_G_row dX6_against_119 ?_
        refine goV (rV (rest := []) S hK hP (ctX0_reckon l D cI cJ ad had 24 rfl _ _ hF) (cwV 2 hts gX6_against_X0_reckon rfl rfl rfl hdV_X0_reckon ⟨Nat.le_of_ble_eq_true rfl, Nat.le_of_ble_eq_true rfl⟩) e_G rfl rfl hl.1 rfl (Nat.le_of_ble_eq_true rfl) dX6_against_122 ⟨Nat.zero_le _, Nat.zero_le _⟩) hS (fun _ h => h) (fun M_10 H locs hP hS hF => ?_)
        refine lv_lload hx hb dX6_against_125 (lv_at hl 1 rfl) ?_
        refine lv_lload hx hb dX6_against_127 (lv_at hl 0 rfl) ?_
        refine lv_aload_n hx hb dX6_against_129 rfl (lv_at hl 3 rfl) ?_
        refine gF S hK hP i6 e_R rfl 4 (by decide) k44 f_R_gains dX6_against_130 ?_
        refine gN S hK hP i0 e_G rfl 4 (by decide) nw_RX6_201 f_G_upper dX6_against_133 ?_
        refine lv_aload_n hx hb dX6_against_136 rfl (lv_at hl 3 rfl) ?_
        refine gF S hK hP i6 e_R rfl 4 (by decide) k44 f_R_gains dX6_against_137 ?_
        refine gN S hK hP i0 e_G rfl 5 (by decide) nw_RX6_204 f_G_lower dX6_against_140 ?_
        refine goI (rS (rest := []) S hK hP (ctX6_compareShares l D cI cJ ad had (gj M_8 2) (gj M_8 3) (gj M_10 2) (gj M_10 3) _ _ hF) (va_cwS 4 hts gX6_against_X6_compareShares rfl rfl rfl hdS_X6_compareShares ⟨Nat.le_of_ble_eq_true rfl, Nat.le_of_ble_eq_true rfl⟩) rfl hl.1 rfl (Nat.le_of_ble_eq_true rfl) dX6_against_143 ⟨Nat.zero_le _, Nat.zero_le _⟩) hS (fun _ h => h) (fun r_11 M_11 H locs hP hS hF => ?_)
        exact retI S hr hlocks hP hS hF dX6_against_146
      · have hF := hF.1 c_6
        refine lv_bipush (v := -3) hx hb dX6_against_44 (by decide) ?_
        exact retI S hr hlocks hP hS hF dX6_against_46
    · have hF := hF.1 c_5
      refine lv_bipush (v := -2) hx hb dX6_against_31 (by decide) ?_
      exact retI S hr hlocks hP hS hF dX6_against_33
def bX6_mendsAll_2 (a1 : Int32) (Q : Int32 → Mm → Prop) (J_2 : Int32 → Mm → Prop) (x2_2 : Int32) (m2 : Mm) : Prop := (((gi m2 14) ≤ x2_2 → (Q (1 : Int32) m2)) ∧ (¬ (gi m2 14) ≤ x2_2 → (wX2_hisBarUnseen x2_2 a1 (fun r_2 M_2 => (wX6_at 25 x2_2 (fun r_3 M_3 => ((r_2 = r_3 → (J_2 (x2_2 + 1) M_3)) ∧ (¬ r_2 = r_3 → (Q (0 : Int32) M_3)))) M_2)) m2)))
def lX6_mendsAll_2 (a1 : Int32) (Q : Int32 → Mm → Prop) (x2_2 : Int32) (m2 : Mm) : Prop := ∀ I : Int32 → Mm → Prop, (∀ J : Int32 → Mm → Prop, (∀ (x2_2 : Int32) (m : Mm), J x2_2 m → I x2_2 m) → ∀ (x2_2 : Int32) (m : Mm), bX6_mendsAll_2 a1 Q J x2_2 m → I x2_2 m) → I x2_2 m2
theorem lX6_mendsAll_2_mk (a1 : Int32) (Q : Int32 → Mm → Prop) (x2_2 : Int32) (m2 : Mm) (h : bX6_mendsAll_2 a1 Q (lX6_mendsAll_2 a1 Q) x2_2 m2) : lX6_mendsAll_2 a1 Q x2_2 m2 := fun I hI => hI (lX6_mendsAll_2 a1 Q) (fun _ _ q => q I hI) _ _ h
def wX6_mendsAll (a1 : Int32) (Q : Int32 → Mm → Prop) (M : Mm) : Prop := (lX6_mendsAll_2 a1 Q (0 : Int32) M)
set_option maxHeartbeats 4000000 in
set_option maxRecDepth 100000 in
theorem ctX6_mendsAll (l : Launch) (D : va_G) (cI cJ : ClassId) (ad : Nat → Nat) (had : inj54 ad) (a1 : Int32) (Q : Int32 → Mm → Prop) (M : Mm) (hF : wX6_mendsAll a1 Q M) : Met l yX6_mendsAll wsX6_mendsAll ({ frames := 2, cells := 0, slots := 0, locals := 44 } : Room) (PcW D cI cJ ad M [.ref (ad 0), .int a1]) (QzW D cI cJ ad Q) 0 0 (Fr ad) := by
  refine entW (y := yX6_mendsAll) (ret := some .boolean) (maxL := 3) (plainFor_of_name (by decide)) rfl (Nat.le_of_ble_eq_true rfl) ?_
  intro p e s m args below meth c ls S hK hr hlocks hP hS hl
  have hx := S.1
  have hb := S.2.1
  have hown := S.2.2.2.1
  have hts := S.2.2.2.2
  have i6 : ∀ w ∈ wsX60, w ∈ wsX6_mendsAll := by decide +kernel
  have i2 : ∀ w ∈ wsX20, w ∈ wsX6_mendsAll := by decide +kernel
  have i0 : ∀ w ∈ wsX00, w ∈ wsX6_mendsAll := by decide +kernel
  have k30 := hts (.fieldLink RX6 30 "RopeLine" "here" "LRopeLine$Place;") (by decide +kernel)
  have k44 := hts (.fieldLink RX6 44 "RopeLine" "gains" "LRopeLine$Gains;") (by decide +kernel)
  have hl : lv_has ls 3 [(0, .ref (ad 0)), (1, .int a1)] := hl
  unfold wX6_mendsAll at hF
  refine lv_iconst (v := 0) hx hb dX6_mendsAll_0 (by decide) ?_
  refine lv_istore_n (lv' := [(2, .int (0 : Int32)), (0, .ref (ad 0)), (1, .int a1)]) hx hb dX6_mendsAll_1 rfl hl (by decide) rfl (fun ls hl => ?_)
  have key_2 : ∀ (x2_2 : Int32) (m2 : Mm), (lX6_mendsAll_2 a1 Q x2_2 m2) → Wc p l e ({ frames := 2, cells := 0, slots := 0, locals := 44 } : Room) s m args below meth c D cI cJ ad (MQ below (QzW D cI cJ ad Q) args s 0 0 (Fr ad)) 3 2 [(0, .ref (ad 0)), (1, .int a1), (2, .int x2_2)] m2 := by
    intro x2_2 m2 hL
    refine hL (fun x2_2 m2 => Wc p l e ({ frames := 2, cells := 0, slots := 0, locals := 44 } : Room) s m args below meth c D cI cJ ad (MQ below (QzW D cI cJ ad Q) args s 0 0 (Fr ad)) 3 2 [(0, .ref (ad 0)), (1, .int a1), (2, .int x2_2)] m2) ?_
    intro J_2 hJ_2 x2_2 m2 hF H locs ls hP hS hl
    unfold bX6_mendsAll_2 at hF
    refine lv_iload_n hx hb dX6_mendsAll_2 rfl (lv_at hl 2 rfl) ?_
    refine lv_aload_n hx hb dX6_mendsAll_3 rfl (lv_at hl 0 rfl) ?_
    refine gF S hK hP i6 e_R rfl 2 (by decide) k30 f_R_here dX6_mendsAll_4 ?_
    refine gN S hK hP i2 e_P rfl 6 (by decide) nw_RX6_97 f_P_sorts dX6_mendsAll_7 ?_
    refine lv_icmp_ge (tgt := 44) hx hb dX6_mendsAll_10 (by decide) (fun c_1 => ?_) (fun c_1 => ?_)
    · have hF := hF.1 c_1
      refine lv_iconst (v := 1) hx hb dX6_mendsAll_44 (by decide) ?_
      exact retZ S hr hlocks hP hS rfl hF dX6_mendsAll_45
    · have hF := hF.2 c_1
      refine lv_aload_n hx hb dX6_mendsAll_13 rfl (lv_at hl 0 rfl) ?_
      refine gF S hK hP i6 e_R rfl 2 (by decide) k30 f_R_here dX6_mendsAll_14 ?_
      refine lv_iload_n hx hb dX6_mendsAll_17 rfl (lv_at hl 2 rfl) ?_
      refine lv_iload_n hx hb dX6_mendsAll_18 rfl (lv_at hl 1 rfl) ?_
      refine goI (rV (rest := []) S hK hP (ctX2_hisBarUnseen l D cI cJ ad had x2_2 a1 _ _ hF) (cwV 2 hts gX6_mendsAll_X2_hisBarUnseen rfl rfl rfl hdV_X2_hisBarUnseen ⟨Nat.le_of_ble_eq_true rfl, Nat.le_of_ble_eq_true rfl⟩) e_P rfl rfl hl.1 rfl (Nat.le_of_ble_eq_true rfl) dX6_mendsAll_19 ⟨Nat.zero_le _, Nat.zero_le _⟩) hS (fun _ h => h) (fun r_2 M_2 H locs hP hS hF => ?_)
      refine lv_aload_n hx hb dX6_mendsAll_22 rfl (lv_at hl 0 rfl) ?_
      refine gF S hK hP i6 e_R rfl 4 (by decide) k44 f_R_gains dX6_mendsAll_23 ?_
      refine gN S hK hP i0 e_G rfl 2 (by decide) nw_RX6_153 f_G_bestRow dX6_mendsAll_26 ?_
      refine lv_iload_n hx hb dX6_mendsAll_29 rfl (lv_at hl 2 rfl) ?_
      refine goI (rS (rest := [.int r_2]) S hK hP (ctX6_at l D cI cJ ad had 25 rfl x2_2 _ _ hF) (va_cwS 2 hts gX6_mendsAll_X6_at rfl rfl rfl hdS_X6_at ⟨Nat.le_of_ble_eq_true rfl, Nat.le_of_ble_eq_true rfl⟩) rfl hl.1 rfl (Nat.le_of_ble_eq_true rfl) dX6_mendsAll_30 ⟨Nat.zero_le _, Nat.zero_le _⟩) hS (fun _ h => h) (fun r_3 M_3 H locs hP hS hF => ?_)
      refine lv_icmp_eq (tgt := 38) hx hb dX6_mendsAll_33 (by decide) (fun c_4 => ?_) (fun c_4 => ?_)
      · have hF := hF.1 c_4
        refine lv_iinc (v := (x2_2 + 1)) (lv' := [(2, .int (x2_2 + 1)), (0, .ref (ad 0)), (1, .int a1)]) hx hb dX6_mendsAll_38 hl (k := 2) rfl rfl (by decide) rfl (fun ls hl => ?_)
        refine lv_goto (tgt := 2) hx hb dX6_mendsAll_41 (by decide) ?_
        exact hJ_2 _ _ hF _ _ _ hP hS (lv_sub hl [1, 2, 0] rfl)
      · have hF := hF.2 c_4
        refine lv_iconst (v := 0) hx hb dX6_mendsAll_36 (by decide) ?_
        exact retZ S hr hlocks hP hS rfl hF dX6_mendsAll_37
  exact key_2 _ _ hF _ _ _ hP hS (lv_sub hl [1, 2, 0] rfl)
def bX6_mends_48 (a1 : Int32) (Q : Int32 → Mm → Prop) (J_48 : Int32 → Int32 → Int32 → Int32 → Mm → Prop) (x2_48 : Int32) (x3_48 : Int32) (x4_48 : Int32) (x5_48 : Int32) (m48 : Mm) : Prop := (((999 : Int32) < x5_48 → ((a1 = 0 → (Q x2_48 m48)) ∧ (¬ a1 = 0 → ((a1 = (1 : Int32) → (Q x3_48 m48)) ∧ (¬ a1 = (1 : Int32) → (Q x4_48 m48)))))) ∧ (¬ (999 : Int32) < x5_48 → (wX6_mendsAll x5_48 (fun r_8 M_8 => ((r_8 = 0 → (J_48 x2_48 x3_48 x4_48 (x5_48 + 1) M_8)) ∧ (¬ r_8 = 0 → ((x4_48 = 0 → (J_48 x5_48 x5_48 (x4_48 + 1) (x5_48 + 1) M_8)) ∧ (¬ x4_48 = 0 → (J_48 x2_48 x5_48 (x4_48 + 1) (x5_48 + 1) M_8)))))) m48)))
def lX6_mends_48 (a1 : Int32) (Q : Int32 → Mm → Prop) (x2_48 : Int32) (x3_48 : Int32) (x4_48 : Int32) (x5_48 : Int32) (m48 : Mm) : Prop := ∀ I : Int32 → Int32 → Int32 → Int32 → Mm → Prop, (∀ J : Int32 → Int32 → Int32 → Int32 → Mm → Prop, (∀ (x2_48 : Int32) (x3_48 : Int32) (x4_48 : Int32) (x5_48 : Int32) (m : Mm), J x2_48 x3_48 x4_48 x5_48 m → I x2_48 x3_48 x4_48 x5_48 m) → ∀ (x2_48 : Int32) (x3_48 : Int32) (x4_48 : Int32) (x5_48 : Int32) (m : Mm), bX6_mends_48 a1 Q J x2_48 x3_48 x4_48 x5_48 m → I x2_48 x3_48 x4_48 x5_48 m) → I x2_48 x3_48 x4_48 x5_48 m48
theorem lX6_mends_48_mk (a1 : Int32) (Q : Int32 → Mm → Prop) (x2_48 : Int32) (x3_48 : Int32) (x4_48 : Int32) (x5_48 : Int32) (m48 : Mm) (h : bX6_mends_48 a1 Q (lX6_mends_48 a1 Q) x2_48 x3_48 x4_48 x5_48 m48) : lX6_mends_48 a1 Q x2_48 x3_48 x4_48 x5_48 m48 := fun I hI => hI (lX6_mends_48 a1 Q) (fun _ _ _ _ _ q => q I hI) _ _ _ _ _ h
def wX6_mends (a1 : Int32) (Q : Int32 → Mm → Prop) (M : Mm) : Prop := (wX6_isWithin a1 (0 : Int32) (2 : Int32) (fun r_1 M_1 => ((r_1 = 0 → (Q (-2 : Int32) M_1)) ∧ (¬ r_1 = 0 → (((gi M_1 11) = 0 → (Q (-3 : Int32) M_1)) ∧ (¬ (gi M_1 11) = 0 → (wX0_knowBest (fun M_4 => (lX6_mends_48 a1 Q (-9 : Int32) (-9 : Int32) (0 : Int32) (0 : Int32) M_4)) M_1)))))) M)
set_option maxHeartbeats 4000000 in
set_option maxRecDepth 100000 in
theorem ctX6_mends (l : Launch) (D : va_G) (cI cJ : ClassId) (ad : Nat → Nat) (had : inj54 ad) (a1 : Int32) (Q : Int32 → Mm → Prop) (M : Mm) (hF : wX6_mends a1 Q M) : Met l yX6_mends wsX6_mends ({ frames := 6, cells := 0, slots := 0, locals := 140 } : Room) (PcW D cI cJ ad M [.ref (ad 0), .int a1]) (QiW D cI cJ ad Q) 0 0 (Fr ad) := by
  refine entW (y := yX6_mends) (ret := some .int) (maxL := 6) (plainFor_of_name (by decide)) rfl (Nat.le_of_ble_eq_true rfl) ?_
  intro p e s m args below meth c ls S hK hr hlocks hP hS hl
  have hx := S.1
  have hb := S.2.1
  have hown := S.2.2.2.1
  have hts := S.2.2.2.2
  have i6 : ∀ w ∈ wsX60, w ∈ wsX6_mends := by decide +kernel
  have i2 : ∀ w ∈ wsX20, w ∈ wsX6_mends := by decide +kernel
  have k30 := hts (.fieldLink RX6 30 "RopeLine" "here" "LRopeLine$Place;") (by decide +kernel)
  have k44 := hts (.fieldLink RX6 44 "RopeLine" "gains" "LRopeLine$Gains;") (by decide +kernel)
  have hl : lv_has ls 6 [(0, .ref (ad 0)), (1, .int a1)] := hl
  unfold wX6_mends at hF
  refine lv_iload_n hx hb dX6_mends_0 rfl (lv_at hl 1 rfl) ?_
  refine lv_iconst (v := 0) hx hb dX6_mends_1 (by decide) ?_
  refine lv_iconst (v := 2) hx hb dX6_mends_2 (by decide) ?_
  refine goZ (rS (rest := []) S hK hP (ctX6_isWithin l D cI cJ ad had a1 (0 : Int32) (2 : Int32) _ _ hF) (va_cwS 3 hts gX6_mends_X6_isWithin rfl rfl rfl hdS_X6_isWithin ⟨Nat.le_of_ble_eq_true rfl, Nat.le_of_ble_eq_true rfl⟩) rfl hl.1 rfl (Nat.le_of_ble_eq_true rfl) dX6_mends_3 ⟨Nat.zero_le _, Nat.zero_le _⟩) hS (fun _ h => h) (fun r_1 M_1 H locs hP hS hz_r_1 hF => ?_)
  refine lv_if_ne (tgt := 12) hx hb dX6_mends_6 (by decide) (fun c_2 => ?_) (fun c_2 => ?_)
  · have hF := hF.2 c_2
    refine lv_aload_n hx hb dX6_mends_12 rfl (lv_at hl 0 rfl) ?_
    refine gF S hK hP i6 e_R rfl 2 (by decide) k30 f_R_here dX6_mends_13 ?_
    refine gN S hK hP i2 e_P rfl 3 (by decide) nw_RX6_100 f_P_isTold dX6_mends_16 ?_
    refine lv_if_ne (tgt := 25) hx hb dX6_mends_19 (by decide) (fun c_3 => ?_) (fun c_3 => ?_)
    · have hF := hF.2 c_3
      refine lv_aload_n hx hb dX6_mends_25 rfl (lv_at hl 0 rfl) ?_
      refine gF S hK hP i6 e_R rfl 4 (by decide) k44 f_R_gains dX6_mends_26 ?_
      refine lv_aload_n hx hb dX6_mends_29 rfl (lv_at hl 0 rfl) ?_
      refine gF S hK hP i6 e_R rfl 2 (by decide) k30 f_R_here dX6_mends_30 ?_
      refine goV (rV (rest := []) S hK hP (ctX0_knowBest l D cI cJ ad had  _ _ hF) (cwV 1 hts gX6_mends_X0_knowBest rfl rfl rfl hdV_X0_knowBest ⟨Nat.le_of_ble_eq_true rfl, Nat.le_of_ble_eq_true rfl⟩) e_G rfl rfl hl.1 rfl (Nat.le_of_ble_eq_true rfl) dX6_mends_33 ⟨Nat.zero_le _, Nat.zero_le _⟩) hS (fun _ h => h) (fun M_4 H locs hP hS hF => ?_)
      refine lv_bipush (v := -9) hx hb dX6_mends_36 (by decide) ?_
      refine lv_istore_n (lv' := [(2, .int (-9 : Int32)), (0, .ref (ad 0)), (1, .int a1)]) hx hb dX6_mends_38 rfl hl (by decide) rfl (fun ls hl => ?_)
      refine lv_bipush (v := -9) hx hb dX6_mends_39 (by decide) ?_
      refine lv_istore_n (lv' := [(3, .int (-9 : Int32)), (2, .int (-9 : Int32)), (0, .ref (ad 0)), (1, .int a1)]) hx hb dX6_mends_41 rfl hl (by decide) rfl (fun ls hl => ?_)
      refine lv_iconst (v := 0) hx hb dX6_mends_42 (by decide) ?_
      refine lv_istore (lv' := [(4, .int (0 : Int32)), (3, .int (-9 : Int32)), (2, .int (-9 : Int32)), (0, .ref (ad 0)), (1, .int a1)]) hx hb dX6_mends_43 hl (by decide) rfl (fun ls hl => ?_)
      refine lv_iconst (v := 0) hx hb dX6_mends_45 (by decide) ?_
      refine lv_istore (lv' := [(5, .int (0 : Int32)), (4, .int (0 : Int32)), (3, .int (-9 : Int32)), (2, .int (-9 : Int32)), (0, .ref (ad 0)), (1, .int a1)]) hx hb dX6_mends_46 hl (by decide) rfl (fun ls hl => ?_)
      have key_48 : ∀ (x2_48 : Int32) (x3_48 : Int32) (x4_48 : Int32) (x5_48 : Int32) (m48 : Mm), (lX6_mends_48 a1 Q x2_48 x3_48 x4_48 x5_48 m48) → Wc p l e ({ frames := 6, cells := 0, slots := 0, locals := 140 } : Room) s m args below meth c D cI cJ ad (MQ below (QiW D cI cJ ad Q) args s 0 0 (Fr ad)) 6 48 [(0, .ref (ad 0)), (1, .int a1), (2, .int x2_48), (3, .int x3_48), (4, .int x4_48), (5, .int x5_48)] m48 := by
        intro x2_48 x3_48 x4_48 x5_48 m48 hL
        refine hL (fun x2_48 x3_48 x4_48 x5_48 m48 => Wc p l e ({ frames := 6, cells := 0, slots := 0, locals := 140 } : Room) s m args below meth c D cI cJ ad (MQ below (QiW D cI cJ ad Q) args s 0 0 (Fr ad)) 6 48 [(0, .ref (ad 0)), (1, .int a1), (2, .int x2_48), (3, .int x3_48), (4, .int x4_48), (5, .int x5_48)] m48) ?_
        intro J_48 hJ_48 x2_48 x3_48 x4_48 x5_48 m48 hF H locs ls hP hS hl
        unfold bX6_mends_48 at hF
        refine lv_iload hx hb dX6_mends_48 (lv_at hl 5 rfl) ?_
        refine lv_sipush (v := 999) hx hb dX6_mends_50 (by decide) ?_
        refine lv_icmp_gt (tgt := 85) hx hb dX6_mends_53 (by decide) (fun c_5 => ?_) (fun c_5 => ?_)
        · have hF := hF.1 c_5
          refine lv_iload_n hx hb dX6_mends_85 rfl (lv_at hl 1 rfl) ?_
          refine lv_if_ne (tgt := 93) hx hb dX6_mends_86 (by decide) (fun c_6 => ?_) (fun c_6 => ?_)
          · have hF := hF.2 c_6
            refine lv_iload_n hx hb dX6_mends_93 rfl (lv_at hl 1 rfl) ?_
            refine lv_iconst (v := 1) hx hb dX6_mends_94 (by decide) ?_
            refine lv_icmp_ne (tgt := 102) hx hb dX6_mends_95 (by decide) (fun c_7 => ?_) (fun c_7 => ?_)
            · have hF := hF.2 c_7
              refine lv_iload hx hb dX6_mends_102 (lv_at hl 4 rfl) ?_
              exact retI S hr hlocks hP hS hF dX6_mends_104
            · have hF := hF.1 c_7
              refine lv_iload_n hx hb dX6_mends_98 rfl (lv_at hl 3 rfl) ?_
              refine lv_goto (tgt := 104) hx hb dX6_mends_99 (by decide) ?_
              exact retI S hr hlocks hP hS hF dX6_mends_104
          · have hF := hF.1 c_6
            refine lv_iload_n hx hb dX6_mends_89 rfl (lv_at hl 2 rfl) ?_
            refine lv_goto (tgt := 104) hx hb dX6_mends_90 (by decide) ?_
            exact retI S hr hlocks hP hS hF dX6_mends_104
        · have hF := hF.2 c_5
          refine lv_aload_n hx hb dX6_mends_56 rfl (lv_at hl 0 rfl) ?_
          refine lv_iload hx hb dX6_mends_57 (lv_at hl 5 rfl) ?_
          refine goZ (rV (rest := []) S hK hP (ctX6_mendsAll l D cI cJ ad had x5_48 _ _ hF) (cwV 1 hts gX6_mends_X6_mendsAll rfl rfl rfl hdV_X6_mendsAll ⟨Nat.le_of_ble_eq_true rfl, Nat.le_of_ble_eq_true rfl⟩) e_R rfl rfl hl.1 rfl (Nat.le_of_ble_eq_true rfl) dX6_mends_59 ⟨Nat.zero_le _, Nat.zero_le _⟩) hS (fun _ h => h) (fun r_8 M_8 H locs hP hS hz_r_8 hF => ?_)
          refine lv_if_eq (tgt := 79) hx hb dX6_mends_62 (by decide) (fun c_9 => ?_) (fun c_9 => ?_)
          · have hF := hF.1 c_9
            refine lv_iinc (v := (x5_48 + 1)) (lv' := [(5, .int (x5_48 + 1)), (0, .ref (ad 0)), (1, .int a1), (2, .int x2_48), (3, .int x3_48), (4, .int x4_48)]) hx hb dX6_mends_79 hl (k := 5) rfl rfl (by decide) rfl (fun ls hl => ?_)
            refine lv_goto (tgt := 48) hx hb dX6_mends_82 (by decide) ?_
            exact hJ_48 _ _ _ _ _ hF _ _ _ hP hS (lv_sub hl [1, 2, 3, 4, 5, 0] rfl)
          · have hF := hF.2 c_9
            refine lv_iload hx hb dX6_mends_65 (lv_at hl 4 rfl) ?_
            refine lv_if_ne (tgt := 73) hx hb dX6_mends_67 (by decide) (fun c_10 => ?_) (fun c_10 => ?_)
            · have hF := hF.2 c_10
              refine lv_iload hx hb dX6_mends_73 (lv_at hl 5 rfl) ?_
              refine lv_istore_n (lv' := [(3, .int x5_48), (0, .ref (ad 0)), (1, .int a1), (2, .int x2_48), (4, .int x4_48), (5, .int x5_48)]) hx hb dX6_mends_75 rfl hl (by decide) rfl (fun ls hl => ?_)
              refine lv_iinc (v := (x4_48 + 1)) (lv' := [(4, .int (x4_48 + 1)), (3, .int x5_48), (0, .ref (ad 0)), (1, .int a1), (2, .int x2_48), (5, .int x5_48)]) hx hb dX6_mends_76 hl (k := 4) rfl rfl (by decide) rfl (fun ls hl => ?_)
              refine lv_iinc (v := (x5_48 + 1)) (lv' := [(5, .int (x5_48 + 1)), (4, .int (x4_48 + 1)), (3, .int x5_48), (0, .ref (ad 0)), (1, .int a1), (2, .int x2_48)]) hx hb dX6_mends_79 hl (k := 5) rfl rfl (by decide) rfl (fun ls hl => ?_)
              refine lv_goto (tgt := 48) hx hb dX6_mends_82 (by decide) ?_
              exact hJ_48 _ _ _ _ _ hF _ _ _ hP hS (lv_sub hl [3, 4, 5, 2, 1, 0] rfl)
            · have hF := hF.1 c_10
              refine lv_iload hx hb dX6_mends_70 (lv_at hl 5 rfl) ?_
              refine lv_istore_n (lv' := [(2, .int x5_48), (0, .ref (ad 0)), (1, .int a1), (3, .int x3_48), (4, .int x4_48), (5, .int x5_48)]) hx hb dX6_mends_72 rfl hl (by decide) rfl (fun ls hl => ?_)
              refine lv_iload hx hb dX6_mends_73 (lv_at hl 5 rfl) ?_
              refine lv_istore_n (lv' := [(3, .int x5_48), (2, .int x5_48), (0, .ref (ad 0)), (1, .int a1), (4, .int x4_48), (5, .int x5_48)]) hx hb dX6_mends_75 rfl hl (by decide) rfl (fun ls hl => ?_)
              refine lv_iinc (v := (x4_48 + 1)) (lv' := [(4, .int (x4_48 + 1)), (3, .int x5_48), (2, .int x5_48), (0, .ref (ad 0)), (1, .int a1), (5, .int x5_48)]) hx hb dX6_mends_76 hl (k := 4) rfl rfl (by decide) rfl (fun ls hl => ?_)
              refine lv_iinc (v := (x5_48 + 1)) (lv' := [(5, .int (x5_48 + 1)), (4, .int (x4_48 + 1)), (3, .int x5_48), (2, .int x5_48), (0, .ref (ad 0)), (1, .int a1)]) hx hb dX6_mends_79 hl (k := 5) rfl rfl (by decide) rfl (fun ls hl => ?_)
              refine lv_goto (tgt := 48) hx hb dX6_mends_82 (by decide) ?_
              exact hJ_48 _ _ _ _ _ hF _ _ _ hP hS (lv_sub hl [4, 5, 3, 2, 1, 0] rfl)
      exact key_48 _ _ _ _ _ hF _ _ _ hP hS (lv_sub hl [4, 5, 3, 2, 1, 0] rfl)
    · have hF := hF.1 c_3
      refine lv_bipush (v := -3) hx hb dX6_mends_22 (by decide) ?_
      exact retI S hr hlocks hP hS hF dX6_mends_24
  · have hF := hF.1 c_2
    refine lv_bipush (v := -2) hx hb dX6_mends_9 (by decide) ?_
    exact retI S hr hlocks hP hS hF dX6_mends_11
def wX6_blind (a1 : Int32) (a2 : Int32) (a3 : Int32) (Q : Int64 → Mm → Prop) (M : Mm) : Prop := (wX6_isWithin a1 (0 : Int32) (12 : Int32) (fun r_1 M_1 => ((r_1 = 0 → (Q (-9223372036854775808 : Int64) M_1)) ∧ (¬ r_1 = 0 → (wX6_isWithin a2 (0 : Int32) (4 : Int32) (fun r_3 M_3 => ((r_3 = 0 → (Q (-9223372036854775808 : Int64) M_3)) ∧ (¬ r_3 = 0 → (wX6_isWithin a3 (0 : Int32) (1 : Int32) (fun r_5 M_5 => ((r_5 = 0 → (Q (-9223372036854775808 : Int64) M_5)) ∧ (¬ r_5 = 0 → (((gi M_5 14) = (1 : Int32) → (wX1_comeBlind 0 a1 (fun M_8 => (wX6_at_ 17 a2 (fun r_9 M_9 => (wX6_share r_9 (gj M_9 0) a3 (fun r_10 M_10 => (Q r_10 M_10)) M_9)) M_8)) M_5)) ∧ (¬ (gi M_5 14) = (1 : Int32) → (Q (-9223372036854775808 : Int64) M_5)))))) M_3)))) M_1)))) M)
set_option maxHeartbeats 4000000 in
set_option maxRecDepth 100000 in
theorem ctX6_blind (l : Launch) (D : va_G) (cI cJ : ClassId) (ad : Nat → Nat) (had : inj54 ad) (a1 : Int32) (a2 : Int32) (a3 : Int32) (Q : Int64 → Mm → Prop) (M : Mm) (hF : wX6_blind a1 a2 a3 Q M) : Met l yX6_blind wsX6_blind ({ frames := 4, cells := 0, slots := 0, locals := 87 } : Room) (PcW D cI cJ ad M [.ref (ad 0), .int a1, .int a2, .int a3]) (QlW D cI cJ ad Q) 0 0 (Fr ad) := by
  refine entW (y := yX6_blind) (ret := some .long) (maxL := 4) (plainFor_of_name (by decide)) rfl (Nat.le_of_ble_eq_true rfl) ?_
  intro p e s m args below meth c ls S hK hr hlocks hP hS hl
  have hx := S.1
  have hb := S.2.1
  have hown := S.2.2.2.1
  have hts := S.2.2.2.2
  have i6 : ∀ w ∈ wsX60, w ∈ wsX6_blind := by decide +kernel
  have i2 : ∀ w ∈ wsX20, w ∈ wsX6_blind := by decide +kernel
  have i1 : ∀ w ∈ wsX10, w ∈ wsX6_blind := by decide +kernel
  have k30 := hts (.fieldLink RX6 30 "RopeLine" "here" "LRopeLine$Place;") (by decide +kernel)
  have k37 := hts (.fieldLink RX6 37 "RopeLine" "lengths" "LRopeLine$Lengths;") (by decide +kernel)
  have hl : lv_has ls 4 [(0, .ref (ad 0)), (1, .int a1), (2, .int a2), (3, .int a3)] := hl
  unfold wX6_blind at hF
  refine lv_iload_n hx hb dX6_blind_0 rfl (lv_at hl 1 rfl) ?_
  refine lv_iconst (v := 0) hx hb dX6_blind_1 (by decide) ?_
  refine lv_bipush (v := 12) hx hb dX6_blind_2 (by decide) ?_
  refine goZ (rS (rest := []) S hK hP (ctX6_isWithin l D cI cJ ad had a1 (0 : Int32) (12 : Int32) _ _ hF) (va_cwS 3 hts gX6_blind_X6_isWithin rfl rfl rfl hdS_X6_isWithin ⟨Nat.le_of_ble_eq_true rfl, Nat.le_of_ble_eq_true rfl⟩) rfl hl.1 rfl (Nat.le_of_ble_eq_true rfl) dX6_blind_4 ⟨Nat.zero_le _, Nat.zero_le _⟩) hS (fun _ h => h) (fun r_1 M_1 H locs hP hS hz_r_1 hF => ?_)
  refine lv_if_eq (tgt := 28) hx hb dX6_blind_7 (by decide) (fun c_2 => ?_) (fun c_2 => ?_)
  · have hF := hF.1 c_2
    refine lv_ldc2 (v := -9223372036854775808) hx hb hown (hts (.constantLong RX6 156 (-9223372036854775808)) (by decide +kernel)) dX6_blind_28 ?_
    exact retL S hr hlocks hP hS hF dX6_blind_31
  · have hF := hF.2 c_2
    refine lv_iload_n hx hb dX6_blind_10 rfl (lv_at hl 2 rfl) ?_
    refine lv_iconst (v := 0) hx hb dX6_blind_11 (by decide) ?_
    refine lv_iconst (v := 4) hx hb dX6_blind_12 (by decide) ?_
    refine goZ (rS (rest := []) S hK hP (ctX6_isWithin l D cI cJ ad had a2 (0 : Int32) (4 : Int32) _ _ hF) (va_cwS 3 hts gX6_blind_X6_isWithin rfl rfl rfl hdS_X6_isWithin ⟨Nat.le_of_ble_eq_true rfl, Nat.le_of_ble_eq_true rfl⟩) rfl hl.1 rfl (Nat.le_of_ble_eq_true rfl) dX6_blind_13 ⟨Nat.zero_le _, Nat.zero_le _⟩) hS (fun _ h => h) (fun r_3 M_3 H locs hP hS hz_r_3 hF => ?_)
    refine lv_if_eq (tgt := 28) hx hb dX6_blind_16 (by decide) (fun c_4 => ?_) (fun c_4 => ?_)
    · have hF := hF.1 c_4
      refine lv_ldc2 (v := -9223372036854775808) hx hb hown (hts (.constantLong RX6 156 (-9223372036854775808)) (by decide +kernel)) dX6_blind_28 ?_
      exact retL S hr hlocks hP hS hF dX6_blind_31
    · have hF := hF.2 c_4
      refine lv_iload_n hx hb dX6_blind_19 rfl (lv_at hl 3 rfl) ?_
      refine lv_iconst (v := 0) hx hb dX6_blind_20 (by decide) ?_
      refine lv_iconst (v := 1) hx hb dX6_blind_21 (by decide) ?_
      refine goZ (rS (rest := []) S hK hP (ctX6_isWithin l D cI cJ ad had a3 (0 : Int32) (1 : Int32) _ _ hF) (va_cwS 3 hts gX6_blind_X6_isWithin rfl rfl rfl hdS_X6_isWithin ⟨Nat.le_of_ble_eq_true rfl, Nat.le_of_ble_eq_true rfl⟩) rfl hl.1 rfl (Nat.le_of_ble_eq_true rfl) dX6_blind_22 ⟨Nat.zero_le _, Nat.zero_le _⟩) hS (fun _ h => h) (fun r_5 M_5 H locs hP hS hz_r_5 hF => ?_)
      refine lv_if_ne (tgt := 32) hx hb dX6_blind_25 (by decide) (fun c_6 => ?_) (fun c_6 => ?_)
      · have hF := hF.2 c_6
        refine lv_aload_n hx hb dX6_blind_32 rfl (lv_at hl 0 rfl) ?_
        refine gF S hK hP i6 e_R rfl 2 (by decide) k30 f_R_here dX6_blind_33 ?_
        refine gN S hK hP i2 e_P rfl 6 (by decide) nw_RX6_97 f_P_sorts dX6_blind_36 ?_
        refine lv_iconst (v := 1) hx hb dX6_blind_39 (by decide) ?_
        refine lv_icmp_eq (tgt := 47) hx hb dX6_blind_40 (by decide) (fun c_7 => ?_) (fun c_7 => ?_)
        · have hF := hF.1 c_7
          refine lv_aload_n hx hb dX6_blind_47 rfl (lv_at hl 0 rfl) ?_
          refine gF S hK hP i6 e_R rfl 3 (by decide) k37 f_R_lengths dX6_blind_48 ?_
          refine lv_aload_n hx hb dX6_blind_51 rfl (lv_at hl 0 rfl) ?_
          refine gF S hK hP i6 e_R rfl 2 (by decide) k30 f_R_here dX6_blind_52 ?_
          refine lv_iload_n hx hb dX6_blind_55 rfl (lv_at hl 1 rfl) ?_
          refine goV (rV (rest := []) S hK hP (ctX1_comeBlind l D cI cJ ad had 0 (by decide) a1 _ _ hF) (cwV 2 hts gX6_blind_X1_comeBlind rfl rfl rfl hdV_X1_comeBlind ⟨Nat.le_of_ble_eq_true rfl, Nat.le_of_ble_eq_true rfl⟩) (e_L (o := 0) (by decide)) rfl rfl hl.1 rfl (Nat.le_of_ble_eq_true rfl) dX6_blind_56 ⟨Nat.zero_le _, Nat.zero_le _⟩) hS (fun _ h => h) (fun M_8 H locs hP hS hF => ?_)
          refine lv_aload_n hx hb dX6_blind_59 rfl (lv_at hl 0 rfl) ?_
          refine gF S hK hP i6 e_R rfl 3 (by decide) k37 f_R_lengths dX6_blind_60 ?_
          refine gN S hK hP i1 (e_L (o := 0) (by decide)) rfl 1 (by decide) nw_RX6_162 f_L_weights dX6_blind_63 ?_
          refine lv_iload_n hx hb dX6_blind_66 rfl (lv_at hl 2 rfl) ?_
          refine goL (rS (rest := []) S hK hP (ctX6_at_ l D cI cJ ad had 17 rfl a2 _ _ hF) (va_cwS 2 hts gX6_blind_X6_at_ rfl rfl rfl hdS_X6_at_ ⟨Nat.le_of_ble_eq_true rfl, Nat.le_of_ble_eq_true rfl⟩) rfl hl.1 rfl (Nat.le_of_ble_eq_true rfl) dX6_blind_67 ⟨Nat.zero_le _, Nat.zero_le _⟩) hS (fun _ h => h) (fun r_9 M_9 H locs hP hS hF => ?_)
          refine lv_aload_n hx hb dX6_blind_70 rfl (lv_at hl 0 rfl) ?_
          refine gF S hK hP i6 e_R rfl 3 (by decide) k37 f_R_lengths dX6_blind_71 ?_
          refine gN S hK hP i1 (e_L (o := 0) (by decide)) rfl 6 (by decide) nw_RX6_169 f_L_total dX6_blind_74 ?_
          refine lv_iload_n hx hb dX6_blind_77 rfl (lv_at hl 3 rfl) ?_
          refine goL (rS (rest := []) S hK hP (ctX6_share l D cI cJ ad had r_9 (gj M_9 0) a3 _ _ hF) (va_cwS 3 hts gX6_blind_X6_share rfl rfl rfl hdS_X6_share ⟨Nat.le_of_ble_eq_true rfl, Nat.le_of_ble_eq_true rfl⟩) rfl hl.1 rfl (Nat.le_of_ble_eq_true rfl) dX6_blind_78 ⟨Nat.zero_le _, Nat.zero_le _⟩) hS (fun _ h => h) (fun r_10 M_10 H locs hP hS hF => ?_)
          exact retL S hr hlocks hP hS hF dX6_blind_81
        · have hF := hF.2 c_7
          refine lv_ldc2 (v := -9223372036854775808) hx hb hown (hts (.constantLong RX6 156 (-9223372036854775808)) (by decide +kernel)) dX6_blind_43 ?_
          exact retL S hr hlocks hP hS hF dX6_blind_46
      · have hF := hF.1 c_6
        refine lv_ldc2 (v := -9223372036854775808) hx hb hown (hts (.constantLong RX6 156 (-9223372036854775808)) (by decide +kernel)) dX6_blind_28 ?_
        exact retL S hr hlocks hP hS hF dX6_blind_31
def bX6_paysBlind_20 (Q : Int32 → Mm → Prop) (J_20 : Int64 → Int64 → Int32 → Mm → Prop) (x2_20 : Int64) (x4_20 : Int64) (x6_20 : Int32) (m20 : Mm) : Prop := (((4 : Int32) ≤ x6_20 → (wX6_at 14 (0 : Int32) (fun r_3 M_3 => (((((r_3 * (gi M_3 12)).toInt64) * x2_20) < ((((gi M_3 13) * (12 : Int32)).toInt64) * x4_20) → (Q (0 : Int32) M_3)) ∧ (¬ (((r_3 * (gi M_3 12)).toInt64) * x2_20) < ((((gi M_3 13) * (12 : Int32)).toInt64) * x4_20) → (Q (1 : Int32) M_3)))) m20)) ∧ (¬ (4 : Int32) ≤ x6_20 → (wX1_found 0 x6_20 (fun r_5 M_5 => (wX1_found 0 x6_20 (fun r_6 M_6 => (J_20 (x2_20 + r_5) (x4_20 + (((x6_20 + (1 : Int32)).toInt64) * r_6)) (x6_20 + 1) M_6)) M_5)) m20)))
def lX6_paysBlind_20 (Q : Int32 → Mm → Prop) (x2_20 : Int64) (x4_20 : Int64) (x6_20 : Int32) (m20 : Mm) : Prop := ∀ I : Int64 → Int64 → Int32 → Mm → Prop, (∀ J : Int64 → Int64 → Int32 → Mm → Prop, (∀ (x2_20 : Int64) (x4_20 : Int64) (x6_20 : Int32) (m : Mm), J x2_20 x4_20 x6_20 m → I x2_20 x4_20 x6_20 m) → ∀ (x2_20 : Int64) (x4_20 : Int64) (x6_20 : Int32) (m : Mm), bX6_paysBlind_20 Q J x2_20 x4_20 x6_20 m → I x2_20 x4_20 x6_20 m) → I x2_20 x4_20 x6_20 m20
theorem lX6_paysBlind_20_mk (Q : Int32 → Mm → Prop) (x2_20 : Int64) (x4_20 : Int64) (x6_20 : Int32) (m20 : Mm) (h : bX6_paysBlind_20 Q (lX6_paysBlind_20 Q) x2_20 x4_20 x6_20 m20) : lX6_paysBlind_20 Q x2_20 x4_20 x6_20 m20 := fun I hI => hI (lX6_paysBlind_20 Q) (fun _ _ _ _ q => q I hI) _ _ _ _ h
def wX6_paysBlind (a1 : Int32) (Q : Int32 → Mm → Prop) (M : Mm) : Prop := (wX1_comeBlind 0 a1 (fun M_1 => (lX6_paysBlind_20 Q (0 : Int64) (0 : Int64) (0 : Int32) M_1)) M)
set_option maxHeartbeats 4000000 in
set_option maxRecDepth 100000 in
theorem ctX6_paysBlind (l : Launch) (D : va_G) (cI cJ : ClassId) (ad : Nat → Nat) (had : inj54 ad) (a1 : Int32) (Q : Int32 → Mm → Prop) (M : Mm) (hF : wX6_paysBlind a1 Q M) : Met l yX6_paysBlind wsX6_paysBlind ({ frames := 4, cells := 0, slots := 0, locals := 87 } : Room) (PcW D cI cJ ad M [.ref (ad 0), .int a1]) (QzW D cI cJ ad Q) 0 0 (Fr ad) := by
  refine entW (y := yX6_paysBlind) (ret := some .boolean) (maxL := 7) (plainFor_of_name (by decide)) rfl (Nat.le_of_ble_eq_true rfl) ?_
  intro p e s m args below meth c ls S hK hr hlocks hP hS hl
  have hx := S.1
  have hb := S.2.1
  have hown := S.2.2.2.1
  have hts := S.2.2.2.2
  have i6 : ∀ w ∈ wsX60, w ∈ wsX6_paysBlind := by decide +kernel
  have i2 : ∀ w ∈ wsX20, w ∈ wsX6_paysBlind := by decide +kernel
  have k37 := hts (.fieldLink RX6 37 "RopeLine" "lengths" "LRopeLine$Lengths;") (by decide +kernel)
  have k30 := hts (.fieldLink RX6 30 "RopeLine" "here" "LRopeLine$Place;") (by decide +kernel)
  have hl : lv_has ls 7 [(0, .ref (ad 0)), (1, .int a1)] := hl
  unfold wX6_paysBlind at hF
  refine lv_aload_n hx hb dX6_paysBlind_0 rfl (lv_at hl 0 rfl) ?_
  refine gF S hK hP i6 e_R rfl 3 (by decide) k37 f_R_lengths dX6_paysBlind_1 ?_
  refine lv_aload_n hx hb dX6_paysBlind_4 rfl (lv_at hl 0 rfl) ?_
  refine gF S hK hP i6 e_R rfl 2 (by decide) k30 f_R_here dX6_paysBlind_5 ?_
  refine lv_iload_n hx hb dX6_paysBlind_8 rfl (lv_at hl 1 rfl) ?_
  refine goV (rV (rest := []) S hK hP (ctX1_comeBlind l D cI cJ ad had 0 (by decide) a1 _ _ hF) (cwV 2 hts gX6_paysBlind_X1_comeBlind rfl rfl rfl hdV_X1_comeBlind ⟨Nat.le_of_ble_eq_true rfl, Nat.le_of_ble_eq_true rfl⟩) (e_L (o := 0) (by decide)) rfl rfl hl.1 rfl (Nat.le_of_ble_eq_true rfl) dX6_paysBlind_9 ⟨Nat.zero_le _, Nat.zero_le _⟩) hS (fun _ h => h) (fun M_1 H locs hP hS hF => ?_)
  refine lv_lconst (v := 0) hx hb dX6_paysBlind_12 (by decide) ?_
  refine lv_lstore_n (lv' := [(2, .long (0 : Int64)), (0, .ref (ad 0)), (1, .int a1)]) hx hb dX6_paysBlind_13 rfl hl (by decide) rfl (fun ls hl => ?_)
  refine lv_lconst (v := 0) hx hb dX6_paysBlind_14 (by decide) ?_
  refine lv_lstore (lv' := [(4, .long (0 : Int64)), (2, .long (0 : Int64)), (0, .ref (ad 0)), (1, .int a1)]) hx hb dX6_paysBlind_15 hl (by decide) rfl (fun ls hl => ?_)
  refine lv_iconst (v := 0) hx hb dX6_paysBlind_17 (by decide) ?_
  refine lv_istore (lv' := [(6, .int (0 : Int32)), (4, .long (0 : Int64)), (2, .long (0 : Int64)), (0, .ref (ad 0)), (1, .int a1)]) hx hb dX6_paysBlind_18 hl (by decide) rfl (fun ls hl => ?_)
  have key_20 : ∀ (x2_20 : Int64) (x4_20 : Int64) (x6_20 : Int32) (m20 : Mm), (lX6_paysBlind_20 Q x2_20 x4_20 x6_20 m20) → Wc p l e ({ frames := 4, cells := 0, slots := 0, locals := 87 } : Room) s m args below meth c D cI cJ ad (MQ below (QzW D cI cJ ad Q) args s 0 0 (Fr ad)) 7 20 [(0, .ref (ad 0)), (2, .long x2_20), (4, .long x4_20), (6, .int x6_20)] m20 := by
    intro x2_20 x4_20 x6_20 m20 hL
    refine hL (fun x2_20 x4_20 x6_20 m20 => Wc p l e ({ frames := 4, cells := 0, slots := 0, locals := 87 } : Room) s m args below meth c D cI cJ ad (MQ below (QzW D cI cJ ad Q) args s 0 0 (Fr ad)) 7 20 [(0, .ref (ad 0)), (2, .long x2_20), (4, .long x4_20), (6, .int x6_20)] m20) ?_
    intro J_20 hJ_20 x2_20 x4_20 x6_20 m20 hF H locs ls hP hS hl
    unfold bX6_paysBlind_20 at hF
    refine lv_iload hx hb dX6_paysBlind_20 (lv_at hl 3 rfl) ?_
    refine lv_iconst (v := 4) hx hb dX6_paysBlind_22 (by decide) ?_
    refine lv_icmp_ge (tgt := 64) hx hb dX6_paysBlind_23 (by decide) (fun c_2 => ?_) (fun c_2 => ?_)
    · have hF := hF.1 c_2
      refine lv_aload_n hx hb dX6_paysBlind_64 rfl (lv_at hl 0 rfl) ?_
      refine gF S hK hP i6 e_R rfl 2 (by decide) k30 f_R_here dX6_paysBlind_65 ?_
      refine gN S hK hP i2 e_P rfl 1 (by decide) nw_RX6_132 f_P_worths dX6_paysBlind_68 ?_
      refine lv_iconst (v := 0) hx hb dX6_paysBlind_71 (by decide) ?_
      refine goI (rS (rest := []) S hK hP (ctX6_at l D cI cJ ad had 14 rfl (0 : Int32) _ _ hF) (va_cwS 2 hts gX6_paysBlind_X6_at rfl rfl rfl hdS_X6_at ⟨Nat.le_of_ble_eq_true rfl, Nat.le_of_ble_eq_true rfl⟩) rfl hl.1 rfl (Nat.le_of_ble_eq_true rfl) dX6_paysBlind_72 ⟨Nat.zero_le _, Nat.zero_le _⟩) hS (fun _ h => h) (fun r_3 M_3 H locs hP hS hF => ?_)
      refine lv_aload_n hx hb dX6_paysBlind_75 rfl (lv_at hl 0 rfl) ?_
      refine gF S hK hP i6 e_R rfl 2 (by decide) k30 f_R_here dX6_paysBlind_76 ?_
      refine gN S hK hP i2 e_P rfl 4 (by decide) nw_RX6_104 f_P_served dX6_paysBlind_79 ?_
      refine lv_imul hx hb dX6_paysBlind_82 ?_
      refine lv_i2l hx hb dX6_paysBlind_83 rfl ?_
      refine lv_lload_n hx hb dX6_paysBlind_84 rfl (lv_at hl 1 rfl) ?_
      refine lv_lmul hx hb dX6_paysBlind_85 ?_
      refine lv_aload_n hx hb dX6_paysBlind_86 rfl (lv_at hl 0 rfl) ?_
      refine gF S hK hP i6 e_R rfl 2 (by decide) k30 f_R_here dX6_paysBlind_87 ?_
      refine gN S hK hP i2 e_P rfl 5 (by decide) nw_RX6_107 f_P_cost dX6_paysBlind_90 ?_
      refine lv_bipush (v := 12) hx hb dX6_paysBlind_93 (by decide) ?_
      refine lv_imul hx hb dX6_paysBlind_95 ?_
      refine lv_i2l hx hb dX6_paysBlind_96 rfl ?_
      refine lv_lload hx hb dX6_paysBlind_97 (lv_at hl 2 rfl) ?_
      refine lv_lmul hx hb dX6_paysBlind_99 ?_
      refine W.lcmp hx hb dX6_paysBlind_100 ?_
      refine lv_if_lt (tgt := 108) hx hb dX6_paysBlind_101 (by decide) (fun c_4 => ?_) (fun c_4 => ?_)
      · have hF := hF.1 (lc_lt.mp c_4)
        refine lv_iconst (v := 0) hx hb dX6_paysBlind_108 (by decide) ?_
        exact retZ S hr hlocks hP hS rfl hF dX6_paysBlind_109
      · have hF := hF.2 (fun q => c_4 (lc_lt.mpr q))
        refine lv_iconst (v := 1) hx hb dX6_paysBlind_104 (by decide) ?_
        refine lv_goto (tgt := 109) hx hb dX6_paysBlind_105 (by decide) ?_
        exact retZ S hr hlocks hP hS rfl hF dX6_paysBlind_109
    · have hF := hF.2 c_2
      refine lv_lload_n hx hb dX6_paysBlind_26 rfl (lv_at hl 1 rfl) ?_
      refine lv_aload_n hx hb dX6_paysBlind_27 rfl (lv_at hl 0 rfl) ?_
      refine gF S hK hP i6 e_R rfl 3 (by decide) k37 f_R_lengths dX6_paysBlind_28 ?_
      refine lv_iload hx hb dX6_paysBlind_31 (lv_at hl 3 rfl) ?_
      refine goL (rV (rest := [.long x2_20]) S hK hP (ctX1_found l D cI cJ ad had 0 (by decide) x6_20 _ _ hF) (cwV 1 hts gX6_paysBlind_X1_found rfl rfl rfl hdV_X1_found ⟨Nat.le_of_ble_eq_true rfl, Nat.le_of_ble_eq_true rfl⟩) (e_L (o := 0) (by decide)) rfl rfl hl.1 rfl (Nat.le_of_ble_eq_true rfl) dX6_paysBlind_33 ⟨Nat.zero_le _, Nat.zero_le _⟩) hS (fun _ h => h) (fun r_5 M_5 H locs hP hS hF => ?_)
      refine lv_ladd hx hb dX6_paysBlind_36 ?_
      refine lv_lstore_n (lv' := [(2, .long (x2_20 + r_5)), (0, .ref (ad 0)), (4, .long x4_20), (6, .int x6_20)]) hx hb dX6_paysBlind_37 rfl hl (by decide) rfl (fun ls hl => ?_)
      refine lv_lload hx hb dX6_paysBlind_38 (lv_at hl 2 rfl) ?_
      refine lv_iload hx hb dX6_paysBlind_40 (lv_at hl 3 rfl) ?_
      refine lv_iconst (v := 1) hx hb dX6_paysBlind_42 (by decide) ?_
      refine lv_iadd hx hb dX6_paysBlind_43 ?_
      refine lv_i2l hx hb dX6_paysBlind_44 rfl ?_
      refine lv_aload_n hx hb dX6_paysBlind_45 rfl (lv_at hl 1 rfl) ?_
      refine gF S hK hP i6 e_R rfl 3 (by decide) k37 f_R_lengths dX6_paysBlind_46 ?_
      refine lv_iload hx hb dX6_paysBlind_49 (lv_at hl 3 rfl) ?_
      refine goL (rV (rest := [.long ((x6_20 + (1 : Int32)).toInt64), .long x4_20]) S hK hP (ctX1_found l D cI cJ ad had 0 (by decide) x6_20 _ _ hF) (cwV 1 hts gX6_paysBlind_X1_found rfl rfl rfl hdV_X1_found ⟨Nat.le_of_ble_eq_true rfl, Nat.le_of_ble_eq_true rfl⟩) (e_L (o := 0) (by decide)) rfl rfl hl.1 rfl (Nat.le_of_ble_eq_true rfl) dX6_paysBlind_51 ⟨Nat.zero_le _, Nat.zero_le _⟩) hS (fun _ h => h) (fun r_6 M_6 H locs hP hS hF => ?_)
      refine lv_lmul hx hb dX6_paysBlind_54 ?_
      refine lv_ladd hx hb dX6_paysBlind_55 ?_
      refine lv_lstore (lv' := [(4, .long (x4_20 + (((x6_20 + (1 : Int32)).toInt64) * r_6))), (2, .long (x2_20 + r_5)), (0, .ref (ad 0)), (6, .int x6_20)]) hx hb dX6_paysBlind_56 hl (by decide) rfl (fun ls hl => ?_)
      refine lv_iinc (v := (x6_20 + 1)) (lv' := [(6, .int (x6_20 + 1)), (4, .long (x4_20 + (((x6_20 + (1 : Int32)).toInt64) * r_6))), (2, .long (x2_20 + r_5)), (0, .ref (ad 0))]) hx hb dX6_paysBlind_58 hl (k := 3) rfl rfl (by decide) rfl (fun ls hl => ?_)
      refine lv_goto (tgt := 20) hx hb dX6_paysBlind_61 (by decide) ?_
      exact hJ_20 _ _ _ _ hF _ _ _ hP hS (lv_sub hl [3, 2, 1, 0] rfl)
  exact key_20 _ _ _ _ hF _ _ _ hP hS (lv_sub hl [3, 2, 1, 0] rfl)
def bX6_rest_17 (Q : Int32 → Mm → Prop) (J_17 : Int32 → Mm → Prop) (x1_17 : Int32) (m17 : Mm) : Prop := ((x1_17 ≤ 0 → (Q (0 : Int32) m17)) ∧ (¬ x1_17 ≤ 0 → (wX6_paysBlind x1_17 (fun r_3 M_3 => ((r_3 = 0 → (J_17 (x1_17 + (-1)) M_3)) ∧ (¬ r_3 = 0 → (Q x1_17 M_3)))) m17)))
def lX6_rest_17 (Q : Int32 → Mm → Prop) (x1_17 : Int32) (m17 : Mm) : Prop := ∀ I : Int32 → Mm → Prop, (∀ J : Int32 → Mm → Prop, (∀ (x1_17 : Int32) (m : Mm), J x1_17 m → I x1_17 m) → ∀ (x1_17 : Int32) (m : Mm), bX6_rest_17 Q J x1_17 m → I x1_17 m) → I x1_17 m17
theorem lX6_rest_17_mk (Q : Int32 → Mm → Prop) (x1_17 : Int32) (m17 : Mm) (h : bX6_rest_17 Q (lX6_rest_17 Q) x1_17 m17) : lX6_rest_17 Q x1_17 m17 := fun I hI => hI (lX6_rest_17 Q) (fun _ _ q => q I hI) _ _ h
def wX6_rest (Q : Int32 → Mm → Prop) (M : Mm) : Prop := (((gi M 14) = (1 : Int32) → (lX6_rest_17 Q (12 : Int32) M)) ∧ (¬ (gi M 14) = (1 : Int32) → (Q (-3 : Int32) M)))
set_option maxHeartbeats 4000000 in
set_option maxRecDepth 100000 in
theorem ctX6_rest (l : Launch) (D : va_G) (cI cJ : ClassId) (ad : Nat → Nat) (had : inj54 ad)  (Q : Int32 → Mm → Prop) (M : Mm) (hF : wX6_rest Q M) : Met l yX6_rest wsX6_rest ({ frames := 5, cells := 0, slots := 0, locals := 113 } : Room) (PcW D cI cJ ad M [.ref (ad 0)]) (QiW D cI cJ ad Q) 0 0 (Fr ad) := by
  refine entW (y := yX6_rest) (ret := some .int) (maxL := 2) (plainFor_of_name (by decide)) rfl (Nat.le_of_ble_eq_true rfl) ?_
  intro p e s m args below meth c ls S hK hr hlocks hP hS hl
  have hx := S.1
  have hb := S.2.1
  have hown := S.2.2.2.1
  have hts := S.2.2.2.2
  have i6 : ∀ w ∈ wsX60, w ∈ wsX6_rest := by decide +kernel
  have i2 : ∀ w ∈ wsX20, w ∈ wsX6_rest := by decide +kernel
  have k30 := hts (.fieldLink RX6 30 "RopeLine" "here" "LRopeLine$Place;") (by decide +kernel)
  have hl : lv_has ls 2 [(0, .ref (ad 0))] := hl
  unfold wX6_rest at hF
  refine lv_aload_n hx hb dX6_rest_0 rfl (lv_at hl 0 rfl) ?_
  refine gF S hK hP i6 e_R rfl 2 (by decide) k30 f_R_here dX6_rest_1 ?_
  refine gN S hK hP i2 e_P rfl 6 (by decide) nw_RX6_97 f_P_sorts dX6_rest_4 ?_
  refine lv_iconst (v := 1) hx hb dX6_rest_7 (by decide) ?_
  refine lv_icmp_eq (tgt := 14) hx hb dX6_rest_8 (by decide) (fun c_1 => ?_) (fun c_1 => ?_)
  · have hF := hF.1 c_1
    refine lv_bipush (v := 12) hx hb dX6_rest_14 (by decide) ?_
    refine lv_istore_n (lv' := [(1, .int (12 : Int32)), (0, .ref (ad 0))]) hx hb dX6_rest_16 rfl hl (by decide) rfl (fun ls hl => ?_)
    have key_17 : ∀ (x1_17 : Int32) (m17 : Mm), (lX6_rest_17 Q x1_17 m17) → Wc p l e ({ frames := 5, cells := 0, slots := 0, locals := 113 } : Room) s m args below meth c D cI cJ ad (MQ below (QiW D cI cJ ad Q) args s 0 0 (Fr ad)) 2 17 [(0, .ref (ad 0)), (1, .int x1_17)] m17 := by
      intro x1_17 m17 hL
      refine hL (fun x1_17 m17 => Wc p l e ({ frames := 5, cells := 0, slots := 0, locals := 113 } : Room) s m args below meth c D cI cJ ad (MQ below (QiW D cI cJ ad Q) args s 0 0 (Fr ad)) 2 17 [(0, .ref (ad 0)), (1, .int x1_17)] m17) ?_
      intro J_17 hJ_17 x1_17 m17 hF H locs ls hP hS hl
      unfold bX6_rest_17 at hF
      refine lv_iload_n hx hb dX6_rest_17 rfl (lv_at hl 1 rfl) ?_
      refine lv_if_le (tgt := 37) hx hb dX6_rest_18 (by decide) (fun c_2 => ?_) (fun c_2 => ?_)
      · have hF := hF.1 c_2
        refine lv_iconst (v := 0) hx hb dX6_rest_37 (by decide) ?_
        exact retI S hr hlocks hP hS hF dX6_rest_38
      · have hF := hF.2 c_2
        refine lv_aload_n hx hb dX6_rest_21 rfl (lv_at hl 0 rfl) ?_
        refine lv_iload_n hx hb dX6_rest_22 rfl (lv_at hl 1 rfl) ?_
        refine goZ (rV (rest := []) S hK hP (ctX6_paysBlind l D cI cJ ad had x1_17 _ _ hF) (cwV 1 hts gX6_rest_X6_paysBlind rfl rfl rfl hdV_X6_paysBlind ⟨Nat.le_of_ble_eq_true rfl, Nat.le_of_ble_eq_true rfl⟩) e_R rfl rfl hl.1 rfl (Nat.le_of_ble_eq_true rfl) dX6_rest_23 ⟨Nat.zero_le _, Nat.zero_le _⟩) hS (fun _ h => h) (fun r_3 M_3 H locs hP hS hz_r_3 hF => ?_)
        refine lv_if_eq (tgt := 31) hx hb dX6_rest_26 (by decide) (fun c_4 => ?_) (fun c_4 => ?_)
        · have hF := hF.1 c_4
          refine lv_iinc (v := (x1_17 + (-1))) (lv' := [(1, .int (x1_17 + (-1))), (0, .ref (ad 0))]) hx hb dX6_rest_31 hl (k := 1) rfl rfl (by decide) rfl (fun ls hl => ?_)
          refine lv_goto (tgt := 17) hx hb dX6_rest_34 (by decide) ?_
          exact hJ_17 _ _ hF _ _ _ hP hS (lv_sub hl [1, 0] rfl)
        · have hF := hF.2 c_4
          refine lv_iload_n hx hb dX6_rest_29 rfl (lv_at hl 1 rfl) ?_
          exact retI S hr hlocks hP hS hF dX6_rest_30
    exact key_17 _ _ hF _ _ _ hP hS (lv_sub hl [1, 0] rfl)
  · have hF := hF.2 c_1
    refine lv_bipush (v := -3) hx hb dX6_rest_11 (by decide) ?_
    exact retI S hr hlocks hP hS hF dX6_rest_13
def wX6_order (a1 : Int32) (Q : Int32 → Mm → Prop) (M : Mm) : Prop := (wX6_isWithin a1 (0 : Int32) (2 : Int32) (fun r_1 M_1 => ((r_1 = 0 → (Q (-2 : Int32) M_1)) ∧ (¬ r_1 = 0 → (∀ M_3 : Mm, M_3 = (si M_1 0 a1) → (Q (gi M_1 0) M_3))))) M)
set_option maxHeartbeats 4000000 in
set_option maxRecDepth 100000 in
theorem ctX6_order (l : Launch) (D : va_G) (cI cJ : ClassId) (ad : Nat → Nat) (had : inj54 ad) (a1 : Int32) (Q : Int32 → Mm → Prop) (M : Mm) (hF : wX6_order a1 Q M) : Met l yX6_order wsX6_order ({ frames := 1, cells := 0, slots := 0, locals := 22 } : Room) (PcW D cI cJ ad M [.ref (ad 0), .int a1]) (QiW D cI cJ ad Q) 0 0 (Fr ad) := by
  refine entW (y := yX6_order) (ret := some .int) (maxL := 3) (plainFor_of_name (by decide)) rfl (Nat.le_of_ble_eq_true rfl) ?_
  intro p e s m args below meth c ls S hK hr hlocks hP hS hl
  have hx := S.1
  have hb := S.2.1
  have hown := S.2.2.2.1
  have hts := S.2.2.2.2
  have i6 : ∀ w ∈ wsX60, w ∈ wsX6_order := by decide +kernel
  have k236 := hts (.fieldLink RX6 236 "RopeLine" "orderNow" "I") (by decide +kernel)
  have hl : lv_has ls 3 [(0, .ref (ad 0)), (1, .int a1)] := hl
  unfold wX6_order at hF
  refine lv_iload_n hx hb dX6_order_0 rfl (lv_at hl 1 rfl) ?_
  refine lv_iconst (v := 0) hx hb dX6_order_1 (by decide) ?_
  refine lv_iconst (v := 2) hx hb dX6_order_2 (by decide) ?_
  refine goZ (rS (rest := []) S hK hP (ctX6_isWithin l D cI cJ ad had a1 (0 : Int32) (2 : Int32) _ _ hF) (va_cwS 3 hts gX6_order_X6_isWithin rfl rfl rfl hdS_X6_isWithin ⟨Nat.le_of_ble_eq_true rfl, Nat.le_of_ble_eq_true rfl⟩) rfl hl.1 rfl (Nat.le_of_ble_eq_true rfl) dX6_order_3 ⟨Nat.zero_le _, Nat.zero_le _⟩) hS (fun _ h => h) (fun r_1 M_1 H locs hP hS hz_r_1 hF => ?_)
  refine lv_if_ne (tgt := 12) hx hb dX6_order_6 (by decide) (fun c_2 => ?_) (fun c_2 => ?_)
  · have hF := hF.2 c_2
    refine lv_aload_n hx hb dX6_order_12 rfl (lv_at hl 0 rfl) ?_
    refine gF S hK hP i6 e_R rfl 6 (by decide) k236 f_R_orderNow dX6_order_13 ?_
    refine lv_istore_n (lv' := [(2, .int (gi M_1 0)), (0, .ref (ad 0)), (1, .int a1)]) hx hb dX6_order_16 rfl hl (by decide) rfl (fun ls hl => ?_)
    refine lv_aload_n hx hb dX6_order_17 rfl (lv_at hl 1 rfl) ?_
    refine lv_iload_n hx hb dX6_order_18 rfl (lv_at hl 2 rfl) ?_
    refine pF S hK had hP hS i6 tyX6_ok nmX6 e_R rfl 6 (by decide) k236 rfl rfl rfl (Nat.lt_of_lt_of_eq (by decide) len_R.symm) s_R_orderNow dX6_order_19 (fun M_3 H locs eM_3 hP hS => ?_)
    have hF := hF M_3 eM_3
    refine lv_iload_n hx hb dX6_order_22 rfl (lv_at hl 0 rfl) ?_
    exact retI S hr hlocks hP hS hF dX6_order_23
  · have hF := hF.1 c_2
    refine lv_bipush (v := -2) hx hb dX6_order_9 (by decide) ?_
    exact retI S hr hlocks hP hS hF dX6_order_11
def wX6_minute (a1 : Int32) (a2 : Int32) (Q : Int32 → Mm → Prop) (M : Mm) : Prop := (wX6_isWithin a1 (0 : Int32) (11 : Int32) (fun r_1 M_1 => ((r_1 = 0 → (Q (-2 : Int32) M_1)) ∧ (¬ r_1 = 0 → (wX6_isWithin a2 (0 : Int32) (11 : Int32) (fun r_3 M_3 => ((r_3 = 0 → (Q (-2 : Int32) M_3)) ∧ (¬ r_3 = 0 → (((gi M_3 11) = 0 → (Q (-3 : Int32) M_3)) ∧ (¬ (gi M_3 11) = 0 → (wX2_sortDrawn a2 (fun r_6 M_6 => ((r_6 = (-9 : Int32) → (wX3_allWait (fun M_8 => (((gi M_8 24) ≤ 0 → ((r_6 = (-9 : Int32) → (∀ M_11 : Mm, M_11 = (si M_8 25 ((gi M_8 25) + (1 : Int32))) → (Q (0 : Int32) M_11))) ∧ (¬ r_6 = (-9 : Int32) → (wX6_at 15 r_6 (fun r_12 M_12 => (wX3_comes r_6 r_12 (fun r_13 M_13 => ((r_13 = 0 → (∀ M_15 : Mm, M_15 = (si M_13 25 ((gi M_13 25) + (1 : Int32))) → (Q ((0 : Int32) + (1 : Int32)) M_15))) ∧ (¬ r_13 = 0 → (∀ M_16 : Mm, M_16 = (si M_13 25 ((gi M_13 25) + (1 : Int32))) → (Q ((0 : Int32) + (2 : Int32)) M_16))))) M_12)) M_8)))) ∧ (¬ (gi M_8 24) ≤ 0 → (((gi M_8 12) ≤ a1 → ((r_6 = (-9 : Int32) → (∀ M_19 : Mm, M_19 = (si M_8 25 ((gi M_8 25) + (1 : Int32))) → (Q (0 : Int32) M_19))) ∧ (¬ r_6 = (-9 : Int32) → (wX6_at 15 r_6 (fun r_20 M_20 => (wX3_comes r_6 r_20 (fun r_21 M_21 => ((r_21 = 0 → (∀ M_23 : Mm, M_23 = (si M_21 25 ((gi M_21 25) + (1 : Int32))) → (Q ((0 : Int32) + (1 : Int32)) M_23))) ∧ (¬ r_21 = 0 → (∀ M_24 : Mm, M_24 = (si M_21 25 ((gi M_21 25) + (1 : Int32))) → (Q ((0 : Int32) + (2 : Int32)) M_24))))) M_20)) M_8)))) ∧ (¬ (gi M_8 12) ≤ a1 → (wX3_nextBy (gi M_8 0) (fun r_25 M_25 => (wX3_serve r_25 (fun r_26 M_26 => ((r_6 = (-9 : Int32) → (∀ M_28 : Mm, M_28 = (si M_26 25 ((gi M_26 25) + (1 : Int32))) → (Q ((100 : Int32) * (r_26 + (1 : Int32))) M_28))) ∧ (¬ r_6 = (-9 : Int32) → (wX6_at 15 r_6 (fun r_29 M_29 => (wX3_comes r_6 r_29 (fun r_30 M_30 => ((r_30 = 0 → (∀ M_32 : Mm, M_32 = (si M_30 25 ((gi M_30 25) + (1 : Int32))) → (Q (((100 : Int32) * (r_26 + (1 : Int32))) + (1 : Int32)) M_32))) ∧ (¬ r_30 = 0 → (∀ M_33 : Mm, M_33 = (si M_30 25 ((gi M_30 25) + (1 : Int32))) → (Q (((100 : Int32) * (r_26 + (1 : Int32))) + (2 : Int32)) M_33))))) M_29)) M_26)))) M_25)) M_8)))))) M_6)) ∧ (¬ r_6 = (-9 : Int32) → (wX3_isFull (fun r_34 M_34 => ((r_34 = 0 → (wX3_allWait (fun M_36 => (((gi M_36 24) ≤ 0 → ((r_6 = (-9 : Int32) → (∀ M_39 : Mm, M_39 = (si M_36 25 ((gi M_36 25) + (1 : Int32))) → (Q (0 : Int32) M_39))) ∧ (¬ r_6 = (-9 : Int32) → (wX6_at 15 r_6 (fun r_40 M_40 => (wX3_comes r_6 r_40 (fun r_41 M_41 => ((r_41 = 0 → (∀ M_43 : Mm, M_43 = (si M_41 25 ((gi M_41 25) + (1 : Int32))) → (Q ((0 : Int32) + (1 : Int32)) M_43))) ∧ (¬ r_41 = 0 → (∀ M_44 : Mm, M_44 = (si M_41 25 ((gi M_41 25) + (1 : Int32))) → (Q ((0 : Int32) + (2 : Int32)) M_44))))) M_40)) M_36)))) ∧ (¬ (gi M_36 24) ≤ 0 → (((gi M_36 12) ≤ a1 → ((r_6 = (-9 : Int32) → (∀ M_47 : Mm, M_47 = (si M_36 25 ((gi M_36 25) + (1 : Int32))) → (Q (0 : Int32) M_47))) ∧ (¬ r_6 = (-9 : Int32) → (wX6_at 15 r_6 (fun r_48 M_48 => (wX3_comes r_6 r_48 (fun r_49 M_49 => ((r_49 = 0 → (∀ M_51 : Mm, M_51 = (si M_49 25 ((gi M_49 25) + (1 : Int32))) → (Q ((0 : Int32) + (1 : Int32)) M_51))) ∧ (¬ r_49 = 0 → (∀ M_52 : Mm, M_52 = (si M_49 25 ((gi M_49 25) + (1 : Int32))) → (Q ((0 : Int32) + (2 : Int32)) M_52))))) M_48)) M_36)))) ∧ (¬ (gi M_36 12) ≤ a1 → (wX3_nextBy (gi M_36 0) (fun r_53 M_53 => (wX3_serve r_53 (fun r_54 M_54 => ((r_6 = (-9 : Int32) → (∀ M_56 : Mm, M_56 = (si M_54 25 ((gi M_54 25) + (1 : Int32))) → (Q ((100 : Int32) * (r_54 + (1 : Int32))) M_56))) ∧ (¬ r_6 = (-9 : Int32) → (wX6_at 15 r_6 (fun r_57 M_57 => (wX3_comes r_6 r_57 (fun r_58 M_58 => ((r_58 = 0 → (∀ M_60 : Mm, M_60 = (si M_58 25 ((gi M_58 25) + (1 : Int32))) → (Q (((100 : Int32) * (r_54 + (1 : Int32))) + (1 : Int32)) M_60))) ∧ (¬ r_58 = 0 → (∀ M_61 : Mm, M_61 = (si M_58 25 ((gi M_58 25) + (1 : Int32))) → (Q (((100 : Int32) * (r_54 + (1 : Int32))) + (2 : Int32)) M_61))))) M_57)) M_54)))) M_53)) M_36)))))) M_34)) ∧ (¬ r_34 = 0 → (Q (-4 : Int32) M_34)))) M_6)))) M_3)))))) M_1)))) M)
set_option maxHeartbeats 4000000 in
set_option maxRecDepth 100000 in
theorem ctX6_minute (l : Launch) (D : va_G) (cI cJ : ClassId) (ad : Nat → Nat) (had : inj54 ad) (a1 : Int32) (a2 : Int32) (Q : Int32 → Mm → Prop) (M : Mm) (hF : wX6_minute a1 a2 Q M) : Met l yX6_minute wsX6_minute ({ frames := 3, cells := 0, slots := 0, locals := 67 } : Room) (PcW D cI cJ ad M [.ref (ad 0), .int a1, .int a2]) (QiW D cI cJ ad Q) 0 0 (Fr ad) := by
  refine entW (y := yX6_minute) (ret := some .int) (maxL := 5) (plainFor_of_name (by decide)) rfl (Nat.le_of_ble_eq_true rfl) ?_
  intro p e s m args below meth c ls S hK hr hlocks hP hS hl
  have hx := S.1
  have hb := S.2.1
  have hown := S.2.2.2.1
  have hts := S.2.2.2.2
  have i6 : ∀ w ∈ wsX60, w ∈ wsX6_minute := by decide +kernel
  have i2 : ∀ w ∈ wsX20, w ∈ wsX6_minute := by decide +kernel
  have i3 : ∀ w ∈ wsX30, w ∈ wsX6_minute := by decide +kernel
  have k30 := hts (.fieldLink RX6 30 "RopeLine" "here" "LRopeLine$Place;") (by decide +kernel)
  have k51 := hts (.fieldLink RX6 51 "RopeLine" "queue" "LRopeLine$Queue;") (by decide +kernel)
  have k236 := hts (.fieldLink RX6 236 "RopeLine" "orderNow" "I") (by decide +kernel)
  have hl : lv_has ls 5 [(0, .ref (ad 0)), (1, .int a1), (2, .int a2)] := hl
  unfold wX6_minute at hF
  refine lv_iload_n hx hb dX6_minute_0 rfl (lv_at hl 1 rfl) ?_
  refine lv_iconst (v := 0) hx hb dX6_minute_1 (by decide) ?_
  refine lv_bipush (v := 11) hx hb dX6_minute_2 (by decide) ?_
  refine goZ (rS (rest := []) S hK hP (ctX6_isWithin l D cI cJ ad had a1 (0 : Int32) (11 : Int32) _ _ hF) (va_cwS 3 hts gX6_minute_X6_isWithin rfl rfl rfl hdS_X6_isWithin ⟨Nat.le_of_ble_eq_true rfl, Nat.le_of_ble_eq_true rfl⟩) rfl hl.1 rfl (Nat.le_of_ble_eq_true rfl) dX6_minute_4 ⟨Nat.zero_le _, Nat.zero_le _⟩) hS (fun _ h => h) (fun r_1 M_1 H locs hP hS hz_r_1 hF => ?_)
  refine lv_if_eq (tgt := 20) hx hb dX6_minute_7 (by decide) (fun c_2 => ?_) (fun c_2 => ?_)
  · have hF := hF.1 c_2
    refine lv_bipush (v := -2) hx hb dX6_minute_20 (by decide) ?_
    exact retI S hr hlocks hP hS hF dX6_minute_22
  · have hF := hF.2 c_2
    refine lv_iload_n hx hb dX6_minute_10 rfl (lv_at hl 2 rfl) ?_
    refine lv_iconst (v := 0) hx hb dX6_minute_11 (by decide) ?_
    refine lv_bipush (v := 11) hx hb dX6_minute_12 (by decide) ?_
    refine goZ (rS (rest := []) S hK hP (ctX6_isWithin l D cI cJ ad had a2 (0 : Int32) (11 : Int32) _ _ hF) (va_cwS 3 hts gX6_minute_X6_isWithin rfl rfl rfl hdS_X6_isWithin ⟨Nat.le_of_ble_eq_true rfl, Nat.le_of_ble_eq_true rfl⟩) rfl hl.1 rfl (Nat.le_of_ble_eq_true rfl) dX6_minute_14 ⟨Nat.zero_le _, Nat.zero_le _⟩) hS (fun _ h => h) (fun r_3 M_3 H locs hP hS hz_r_3 hF => ?_)
    refine lv_if_ne (tgt := 23) hx hb dX6_minute_17 (by decide) (fun c_4 => ?_) (fun c_4 => ?_)
    · have hF := hF.2 c_4
      refine lv_aload_n hx hb dX6_minute_23 rfl (lv_at hl 0 rfl) ?_
      refine gF S hK hP i6 e_R rfl 2 (by decide) k30 f_R_here dX6_minute_24 ?_
      refine gN S hK hP i2 e_P rfl 3 (by decide) nw_RX6_100 f_P_isTold dX6_minute_27 ?_
      refine lv_if_ne (tgt := 36) hx hb dX6_minute_30 (by decide) (fun c_5 => ?_) (fun c_5 => ?_)
      · have hF := hF.2 c_5
        refine lv_aload_n hx hb dX6_minute_36 rfl (lv_at hl 0 rfl) ?_
        refine gF S hK hP i6 e_R rfl 2 (by decide) k30 f_R_here dX6_minute_37 ?_
        refine lv_iload_n hx hb dX6_minute_40 rfl (lv_at hl 2 rfl) ?_
        refine goI (rV (rest := []) S hK hP (ctX2_sortDrawn l D cI cJ ad had a2 _ _ hF) (cwV 1 hts gX6_minute_X2_sortDrawn rfl rfl rfl hdV_X2_sortDrawn ⟨Nat.le_of_ble_eq_true rfl, Nat.le_of_ble_eq_true rfl⟩) e_P rfl rfl hl.1 rfl (Nat.le_of_ble_eq_true rfl) dX6_minute_41 ⟨Nat.zero_le _, Nat.zero_le _⟩) hS (fun _ h => h) (fun r_6 M_6 H locs hP hS hF => ?_)
        refine lv_istore_n (lv' := [(3, .int r_6), (0, .ref (ad 0)), (1, .int a1), (2, .int a2)]) hx hb dX6_minute_44 rfl hl (by decide) rfl (fun ls hl => ?_)
        refine lv_iload_n hx hb dX6_minute_45 rfl (lv_at hl 0 rfl) ?_
        refine lv_bipush (v := -9) hx hb dX6_minute_46 (by decide) ?_
        refine lv_icmp_eq (tgt := 64) hx hb dX6_minute_48 (by decide) (fun c_7 => ?_) (fun c_7 => ?_)
        · have hF := hF.1 c_7
          refine lv_aload_n hx hb dX6_minute_64 rfl (lv_at hl 1 rfl) ?_
          refine gF S hK hP i6 e_R rfl 5 (by decide) k51 f_R_queue dX6_minute_65 ?_
          refine goV (rV (rest := []) S hK hP (ctX3_allWait l D cI cJ ad had  _ _ hF) (cwV 0 hts gX6_minute_X3_allWait rfl rfl rfl hdV_X3_allWait ⟨Nat.le_of_ble_eq_true rfl, Nat.le_of_ble_eq_true rfl⟩) e_Q rfl rfl hl.1 rfl (Nat.le_of_ble_eq_true rfl) dX6_minute_68 ⟨Nat.zero_le _, Nat.zero_le _⟩) hS (fun _ h => h) (fun M_8 H locs hP hS hF => ?_)
          refine lv_iconst (v := 0) hx hb dX6_minute_71 (by decide) ?_
          refine lv_istore (lv' := [(4, .int (0 : Int32)), (3, .int r_6), (0, .ref (ad 0)), (1, .int a1), (2, .int a2)]) hx hb dX6_minute_72 hl (by decide) rfl (fun ls hl => ?_)
          refine lv_aload_n hx hb dX6_minute_74 rfl (lv_at hl 2 rfl) ?_
          refine gF S hK hP i6 e_R rfl 5 (by decide) k51 f_R_queue dX6_minute_75 ?_
          refine gN S hK hP i3 e_Q rfl 7 (by decide) nw_RX6_249 f_Q_standing dX6_minute_78 ?_
          refine lv_if_le (tgt := 124) hx hb dX6_minute_81 (by decide) (fun c_9 => ?_) (fun c_9 => ?_)
          · have hF := hF.1 c_9
            refine lv_iload_n hx hb dX6_minute_124 rfl (lv_at hl 1 rfl) ?_
            refine lv_bipush (v := -9) hx hb dX6_minute_125 (by decide) ?_
            refine lv_icmp_eq (tgt := 162) hx hb dX6_minute_127 (by decide) (fun c_10 => ?_) (fun c_10 => ?_)
            · have hF := hF.1 c_10
              refine lv_aload_n hx hb dX6_minute_162 rfl (lv_at hl 2 rfl) ?_
              refine gF S hK hP i6 e_R rfl 5 (by decide) k51 f_R_queue dX6_minute_163 ?_
              refine lv_dup hx hb dX6_minute_166 rfl ?_
              refine gN S hK hP i3 e_Q rfl 8 (by decide) nw_RX6_262 f_Q_minutes dX6_minute_167 ?_
              refine lv_iconst (v := 1) hx hb dX6_minute_170 (by decide) ?_
              refine lv_iadd hx hb dX6_minute_171 ?_
              refine pN S hK had hP hS i3 tyX3_ok nmX3 e_Q rfl 8 (by decide) nw_RX6_262 rfl rfl rfl (Nat.lt_of_lt_of_eq (by decide) len_Q.symm) s_Q_minutes dX6_minute_172 (fun M_11 H locs eM_11 hP hS => ?_)
              have hF := hF M_11 eM_11
              refine lv_iload hx hb dX6_minute_175 (lv_at hl 0 rfl) ?_
              exact retI S hr hlocks hP hS hF dX6_minute_177
            · have hF := hF.2 c_10
              refine lv_iload hx hb dX6_minute_130 (lv_at hl 0 rfl) ?_
              refine lv_aload_n hx hb dX6_minute_132 rfl (lv_at hl 2 rfl) ?_
              refine gF S hK hP i6 e_R rfl 5 (by decide) k51 f_R_queue dX6_minute_133 ?_
              refine lv_iload_n hx hb dX6_minute_136 rfl (lv_at hl 1 rfl) ?_
              refine lv_aload_n hx hb dX6_minute_137 rfl (lv_at hl 2 rfl) ?_
              refine gF S hK hP i6 e_R rfl 2 (by decide) k30 f_R_here dX6_minute_138 ?_
              refine gN S hK hP i2 e_P rfl 2 (by decide) nw_RX6_135 f_P_bars dX6_minute_141 ?_
              refine lv_iload_n hx hb dX6_minute_144 rfl (lv_at hl 1 rfl) ?_
              refine goI (rS (rest := [.int r_6, .ref (ad 6), .int (0 : Int32)]) S hK hP (ctX6_at l D cI cJ ad had 15 rfl r_6 _ _ hF) (va_cwS 2 hts gX6_minute_X6_at rfl rfl rfl hdS_X6_at ⟨Nat.le_of_ble_eq_true rfl, Nat.le_of_ble_eq_true rfl⟩) rfl hl.1 rfl (Nat.le_of_ble_eq_true rfl) dX6_minute_145 ⟨Nat.zero_le _, Nat.zero_le _⟩) hS (fun _ h => h) (fun r_12 M_12 H locs hP hS hF => ?_)
              refine goZ (rV (rest := [.int (0 : Int32)]) S hK hP (ctX3_comes l D cI cJ ad had r_6 r_12 _ _ hF) (cwV 2 hts gX6_minute_X3_comes rfl rfl rfl hdV_X3_comes ⟨Nat.le_of_ble_eq_true rfl, Nat.le_of_ble_eq_true rfl⟩) e_Q rfl rfl hl.1 rfl (Nat.le_of_ble_eq_true rfl) dX6_minute_148 ⟨Nat.zero_le _, Nat.zero_le _⟩) hS (fun _ h => h) (fun r_13 M_13 H locs hP hS hz_r_13 hF => ?_)
              refine lv_if_eq (tgt := 158) hx hb dX6_minute_151 (by decide) (fun c_14 => ?_) (fun c_14 => ?_)
              · have hF := hF.1 c_14
                refine lv_iconst (v := 1) hx hb dX6_minute_158 (by decide) ?_
                refine lv_iadd hx hb dX6_minute_159 ?_
                refine lv_istore (lv' := [(4, .int ((0 : Int32) + (1 : Int32))), (3, .int r_6), (0, .ref (ad 0)), (1, .int a1), (2, .int a2)]) hx hb dX6_minute_160 hl (by decide) rfl (fun ls hl => ?_)
                refine lv_aload_n hx hb dX6_minute_162 rfl (lv_at hl 2 rfl) ?_
                refine gF S hK hP i6 e_R rfl 5 (by decide) k51 f_R_queue dX6_minute_163 ?_
                refine lv_dup hx hb dX6_minute_166 rfl ?_
                refine gN S hK hP i3 e_Q rfl 8 (by decide) nw_RX6_262 f_Q_minutes dX6_minute_167 ?_
                refine lv_iconst (v := 1) hx hb dX6_minute_170 (by decide) ?_
                refine lv_iadd hx hb dX6_minute_171 ?_
                refine pN S hK had hP hS i3 tyX3_ok nmX3 e_Q rfl 8 (by decide) nw_RX6_262 rfl rfl rfl (Nat.lt_of_lt_of_eq (by decide) len_Q.symm) s_Q_minutes dX6_minute_172 (fun M_15 H locs eM_15 hP hS => ?_)
                have hF := hF M_15 eM_15
                refine lv_iload hx hb dX6_minute_175 (lv_at hl 0 rfl) ?_
                exact retI S hr hlocks hP hS hF dX6_minute_177
              · have hF := hF.2 c_14
                refine lv_iconst (v := 2) hx hb dX6_minute_154 (by decide) ?_
                refine lv_goto (tgt := 159) hx hb dX6_minute_155 (by decide) ?_
                refine lv_iadd hx hb dX6_minute_159 ?_
                refine lv_istore (lv' := [(4, .int ((0 : Int32) + (2 : Int32))), (3, .int r_6), (0, .ref (ad 0)), (1, .int a1), (2, .int a2)]) hx hb dX6_minute_160 hl (by decide) rfl (fun ls hl => ?_)
                refine lv_aload_n hx hb dX6_minute_162 rfl (lv_at hl 2 rfl) ?_
                refine gF S hK hP i6 e_R rfl 5 (by decide) k51 f_R_queue dX6_minute_163 ?_
                refine lv_dup hx hb dX6_minute_166 rfl ?_
                refine gN S hK hP i3 e_Q rfl 8 (by decide) nw_RX6_262 f_Q_minutes dX6_minute_167 ?_
                refine lv_iconst (v := 1) hx hb dX6_minute_170 (by decide) ?_
                refine lv_iadd hx hb dX6_minute_171 ?_
                refine pN S hK had hP hS i3 tyX3_ok nmX3 e_Q rfl 8 (by decide) nw_RX6_262 rfl rfl rfl (Nat.lt_of_lt_of_eq (by decide) len_Q.symm) s_Q_minutes dX6_minute_172 (fun M_16 H locs eM_16 hP hS => ?_)
                have hF := hF M_16 eM_16
                refine lv_iload hx hb dX6_minute_175 (lv_at hl 0 rfl) ?_
                exact retI S hr hlocks hP hS hF dX6_minute_177
          · have hF := hF.2 c_9
            refine lv_iload_n hx hb dX6_minute_84 rfl (lv_at hl 3 rfl) ?_
            refine lv_aload_n hx hb dX6_minute_85 rfl (lv_at hl 2 rfl) ?_
            refine gF S hK hP i6 e_R rfl 2 (by decide) k30 f_R_here dX6_minute_86 ?_
            refine gN S hK hP i2 e_P rfl 4 (by decide) nw_RX6_104 f_P_served dX6_minute_89 ?_
            refine lv_icmp_ge (tgt := 124) hx hb dX6_minute_92 (by decide) (fun c_17 => ?_) (fun c_17 => ?_)
            · have hF := hF.1 c_17
              refine lv_iload_n hx hb dX6_minute_124 rfl (lv_at hl 1 rfl) ?_
              refine lv_bipush (v := -9) hx hb dX6_minute_125 (by decide) ?_
              refine lv_icmp_eq (tgt := 162) hx hb dX6_minute_127 (by decide) (fun c_18 => ?_) (fun c_18 => ?_)
              · have hF := hF.1 c_18
                refine lv_aload_n hx hb dX6_minute_162 rfl (lv_at hl 2 rfl) ?_
                refine gF S hK hP i6 e_R rfl 5 (by decide) k51 f_R_queue dX6_minute_163 ?_
                refine lv_dup hx hb dX6_minute_166 rfl ?_
                refine gN S hK hP i3 e_Q rfl 8 (by decide) nw_RX6_262 f_Q_minutes dX6_minute_167 ?_
                refine lv_iconst (v := 1) hx hb dX6_minute_170 (by decide) ?_
                refine lv_iadd hx hb dX6_minute_171 ?_
                refine pN S hK had hP hS i3 tyX3_ok nmX3 e_Q rfl 8 (by decide) nw_RX6_262 rfl rfl rfl (Nat.lt_of_lt_of_eq (by decide) len_Q.symm) s_Q_minutes dX6_minute_172 (fun M_19 H locs eM_19 hP hS => ?_)
                have hF := hF M_19 eM_19
                refine lv_iload hx hb dX6_minute_175 (lv_at hl 0 rfl) ?_
                exact retI S hr hlocks hP hS hF dX6_minute_177
              · have hF := hF.2 c_18
                refine lv_iload hx hb dX6_minute_130 (lv_at hl 0 rfl) ?_
                refine lv_aload_n hx hb dX6_minute_132 rfl (lv_at hl 2 rfl) ?_
                refine gF S hK hP i6 e_R rfl 5 (by decide) k51 f_R_queue dX6_minute_133 ?_
                refine lv_iload_n hx hb dX6_minute_136 rfl (lv_at hl 1 rfl) ?_
                refine lv_aload_n hx hb dX6_minute_137 rfl (lv_at hl 2 rfl) ?_
                refine gF S hK hP i6 e_R rfl 2 (by decide) k30 f_R_here dX6_minute_138 ?_
                refine gN S hK hP i2 e_P rfl 2 (by decide) nw_RX6_135 f_P_bars dX6_minute_141 ?_
                refine lv_iload_n hx hb dX6_minute_144 rfl (lv_at hl 1 rfl) ?_
                refine goI (rS (rest := [.int r_6, .ref (ad 6), .int (0 : Int32)]) S hK hP (ctX6_at l D cI cJ ad had 15 rfl r_6 _ _ hF) (va_cwS 2 hts gX6_minute_X6_at rfl rfl rfl hdS_X6_at ⟨Nat.le_of_ble_eq_true rfl, Nat.le_of_ble_eq_true rfl⟩) rfl hl.1 rfl (Nat.le_of_ble_eq_true rfl) dX6_minute_145 ⟨Nat.zero_le _, Nat.zero_le _⟩) hS (fun _ h => h) (fun r_20 M_20 H locs hP hS hF => ?_)
                refine goZ (rV (rest := [.int (0 : Int32)]) S hK hP (ctX3_comes l D cI cJ ad had r_6 r_20 _ _ hF) (cwV 2 hts gX6_minute_X3_comes rfl rfl rfl hdV_X3_comes ⟨Nat.le_of_ble_eq_true rfl, Nat.le_of_ble_eq_true rfl⟩) e_Q rfl rfl hl.1 rfl (Nat.le_of_ble_eq_true rfl) dX6_minute_148 ⟨Nat.zero_le _, Nat.zero_le _⟩) hS (fun _ h => h) (fun r_21 M_21 H locs hP hS hz_r_21 hF => ?_)
                refine lv_if_eq (tgt := 158) hx hb dX6_minute_151 (by decide) (fun c_22 => ?_) (fun c_22 => ?_)
                · have hF := hF.1 c_22
                  refine lv_iconst (v := 1) hx hb dX6_minute_158 (by decide) ?_
                  refine lv_iadd hx hb dX6_minute_159 ?_
                  refine lv_istore (lv' := [(4, .int ((0 : Int32) + (1 : Int32))), (3, .int r_6), (0, .ref (ad 0)), (1, .int a1), (2, .int a2)]) hx hb dX6_minute_160 hl (by decide) rfl (fun ls hl => ?_)
                  refine lv_aload_n hx hb dX6_minute_162 rfl (lv_at hl 2 rfl) ?_
                  refine gF S hK hP i6 e_R rfl 5 (by decide) k51 f_R_queue dX6_minute_163 ?_
                  refine lv_dup hx hb dX6_minute_166 rfl ?_
                  refine gN S hK hP i3 e_Q rfl 8 (by decide) nw_RX6_262 f_Q_minutes dX6_minute_167 ?_
                  refine lv_iconst (v := 1) hx hb dX6_minute_170 (by decide) ?_
                  refine lv_iadd hx hb dX6_minute_171 ?_
                  refine pN S hK had hP hS i3 tyX3_ok nmX3 e_Q rfl 8 (by decide) nw_RX6_262 rfl rfl rfl (Nat.lt_of_lt_of_eq (by decide) len_Q.symm) s_Q_minutes dX6_minute_172 (fun M_23 H locs eM_23 hP hS => ?_)
                  have hF := hF M_23 eM_23
                  refine lv_iload hx hb dX6_minute_175 (lv_at hl 0 rfl) ?_
                  exact retI S hr hlocks hP hS hF dX6_minute_177
                · have hF := hF.2 c_22
                  refine lv_iconst (v := 2) hx hb dX6_minute_154 (by decide) ?_
                  refine lv_goto (tgt := 159) hx hb dX6_minute_155 (by decide) ?_
                  refine lv_iadd hx hb dX6_minute_159 ?_
                  refine lv_istore (lv' := [(4, .int ((0 : Int32) + (2 : Int32))), (3, .int r_6), (0, .ref (ad 0)), (1, .int a1), (2, .int a2)]) hx hb dX6_minute_160 hl (by decide) rfl (fun ls hl => ?_)
                  refine lv_aload_n hx hb dX6_minute_162 rfl (lv_at hl 2 rfl) ?_
                  refine gF S hK hP i6 e_R rfl 5 (by decide) k51 f_R_queue dX6_minute_163 ?_
                  refine lv_dup hx hb dX6_minute_166 rfl ?_
                  refine gN S hK hP i3 e_Q rfl 8 (by decide) nw_RX6_262 f_Q_minutes dX6_minute_167 ?_
                  refine lv_iconst (v := 1) hx hb dX6_minute_170 (by decide) ?_
                  refine lv_iadd hx hb dX6_minute_171 ?_
                  refine pN S hK had hP hS i3 tyX3_ok nmX3 e_Q rfl 8 (by decide) nw_RX6_262 rfl rfl rfl (Nat.lt_of_lt_of_eq (by decide) len_Q.symm) s_Q_minutes dX6_minute_172 (fun M_24 H locs eM_24 hP hS => ?_)
                  have hF := hF M_24 eM_24
                  refine lv_iload hx hb dX6_minute_175 (lv_at hl 0 rfl) ?_
                  exact retI S hr hlocks hP hS hF dX6_minute_177
            · have hF := hF.2 c_17
              refine lv_bipush (v := 100) hx hb dX6_minute_95 (by decide) ?_
              refine lv_aload_n hx hb dX6_minute_97 rfl (lv_at hl 2 rfl) ?_
              refine gF S hK hP i6 e_R rfl 5 (by decide) k51 f_R_queue dX6_minute_98 ?_
              refine lv_aload_n hx hb dX6_minute_101 rfl (lv_at hl 2 rfl) ?_
              refine gF S hK hP i6 e_R rfl 5 (by decide) k51 f_R_queue dX6_minute_102 ?_
              refine lv_aload_n hx hb dX6_minute_105 rfl (lv_at hl 2 rfl) ?_
              refine gF S hK hP i6 e_R rfl 6 (by decide) k236 f_R_orderNow dX6_minute_106 ?_
              refine lv_aload_n hx hb dX6_minute_109 rfl (lv_at hl 2 rfl) ?_
              refine gF S hK hP i6 e_R rfl 2 (by decide) k30 f_R_here dX6_minute_110 ?_
              refine goI (rV (rest := [.ref (ad 6), .int (100 : Int32)]) S hK hP (ctX3_nextBy l D cI cJ ad had (gi M_8 0) _ _ hF) (cwV 2 hts gX6_minute_X3_nextBy rfl rfl rfl hdV_X3_nextBy ⟨Nat.le_of_ble_eq_true rfl, Nat.le_of_ble_eq_true rfl⟩) e_Q rfl rfl hl.1 rfl (Nat.le_of_ble_eq_true rfl) dX6_minute_113 ⟨Nat.zero_le _, Nat.zero_le _⟩) hS (fun _ h => h) (fun r_25 M_25 H locs hP hS hF => ?_)
              refine goI (rV (rest := [.int (100 : Int32)]) S hK hP (ctX3_serve l D cI cJ ad had r_25 _ _ hF) (cwV 1 hts gX6_minute_X3_serve rfl rfl rfl hdV_X3_serve ⟨Nat.le_of_ble_eq_true rfl, Nat.le_of_ble_eq_true rfl⟩) e_Q rfl rfl hl.1 rfl (Nat.le_of_ble_eq_true rfl) dX6_minute_116 ⟨Nat.zero_le _, Nat.zero_le _⟩) hS (fun _ h => h) (fun r_26 M_26 H locs hP hS hF => ?_)
              refine lv_iconst (v := 1) hx hb dX6_minute_119 (by decide) ?_
              refine lv_iadd hx hb dX6_minute_120 ?_
              refine lv_imul hx hb dX6_minute_121 ?_
              refine lv_istore (lv' := [(4, .int ((100 : Int32) * (r_26 + (1 : Int32)))), (3, .int r_6), (0, .ref (ad 0)), (1, .int a1), (2, .int a2)]) hx hb dX6_minute_122 hl (by decide) rfl (fun ls hl => ?_)
              refine lv_iload_n hx hb dX6_minute_124 rfl (lv_at hl 1 rfl) ?_
              refine lv_bipush (v := -9) hx hb dX6_minute_125 (by decide) ?_
              refine lv_icmp_eq (tgt := 162) hx hb dX6_minute_127 (by decide) (fun c_27 => ?_) (fun c_27 => ?_)
              · have hF := hF.1 c_27
                refine lv_aload_n hx hb dX6_minute_162 rfl (lv_at hl 2 rfl) ?_
                refine gF S hK hP i6 e_R rfl 5 (by decide) k51 f_R_queue dX6_minute_163 ?_
                refine lv_dup hx hb dX6_minute_166 rfl ?_
                refine gN S hK hP i3 e_Q rfl 8 (by decide) nw_RX6_262 f_Q_minutes dX6_minute_167 ?_
                refine lv_iconst (v := 1) hx hb dX6_minute_170 (by decide) ?_
                refine lv_iadd hx hb dX6_minute_171 ?_
                refine pN S hK had hP hS i3 tyX3_ok nmX3 e_Q rfl 8 (by decide) nw_RX6_262 rfl rfl rfl (Nat.lt_of_lt_of_eq (by decide) len_Q.symm) s_Q_minutes dX6_minute_172 (fun M_28 H locs eM_28 hP hS => ?_)
                have hF := hF M_28 eM_28
                refine lv_iload hx hb dX6_minute_175 (lv_at hl 0 rfl) ?_
                exact retI S hr hlocks hP hS hF dX6_minute_177
              · have hF := hF.2 c_27
                refine lv_iload hx hb dX6_minute_130 (lv_at hl 0 rfl) ?_
                refine lv_aload_n hx hb dX6_minute_132 rfl (lv_at hl 2 rfl) ?_
                refine gF S hK hP i6 e_R rfl 5 (by decide) k51 f_R_queue dX6_minute_133 ?_
                refine lv_iload_n hx hb dX6_minute_136 rfl (lv_at hl 1 rfl) ?_
                refine lv_aload_n hx hb dX6_minute_137 rfl (lv_at hl 2 rfl) ?_
                refine gF S hK hP i6 e_R rfl 2 (by decide) k30 f_R_here dX6_minute_138 ?_
                refine gN S hK hP i2 e_P rfl 2 (by decide) nw_RX6_135 f_P_bars dX6_minute_141 ?_
                refine lv_iload_n hx hb dX6_minute_144 rfl (lv_at hl 1 rfl) ?_
                refine goI (rS (rest := [.int r_6, .ref (ad 6), .int ((100 : Int32) * (r_26 + (1 : Int32)))]) S hK hP (ctX6_at l D cI cJ ad had 15 rfl r_6 _ _ hF) (va_cwS 2 hts gX6_minute_X6_at rfl rfl rfl hdS_X6_at ⟨Nat.le_of_ble_eq_true rfl, Nat.le_of_ble_eq_true rfl⟩) rfl hl.1 rfl (Nat.le_of_ble_eq_true rfl) dX6_minute_145 ⟨Nat.zero_le _, Nat.zero_le _⟩) hS (fun _ h => h) (fun r_29 M_29 H locs hP hS hF => ?_)
                refine goZ (rV (rest := [.int ((100 : Int32) * (r_26 + (1 : Int32)))]) S hK hP (ctX3_comes l D cI cJ ad had r_6 r_29 _ _ hF) (cwV 2 hts gX6_minute_X3_comes rfl rfl rfl hdV_X3_comes ⟨Nat.le_of_ble_eq_true rfl, Nat.le_of_ble_eq_true rfl⟩) e_Q rfl rfl hl.1 rfl (Nat.le_of_ble_eq_true rfl) dX6_minute_148 ⟨Nat.zero_le _, Nat.zero_le _⟩) hS (fun _ h => h) (fun r_30 M_30 H locs hP hS hz_r_30 hF => ?_)
                refine lv_if_eq (tgt := 158) hx hb dX6_minute_151 (by decide) (fun c_31 => ?_) (fun c_31 => ?_)
                · have hF := hF.1 c_31
                  refine lv_iconst (v := 1) hx hb dX6_minute_158 (by decide) ?_
                  refine lv_iadd hx hb dX6_minute_159 ?_
                  refine lv_istore (lv' := [(4, .int (((100 : Int32) * (r_26 + (1 : Int32))) + (1 : Int32))), (3, .int r_6), (0, .ref (ad 0)), (1, .int a1), (2, .int a2)]) hx hb dX6_minute_160 hl (by decide) rfl (fun ls hl => ?_)
                  refine lv_aload_n hx hb dX6_minute_162 rfl (lv_at hl 2 rfl) ?_
                  refine gF S hK hP i6 e_R rfl 5 (by decide) k51 f_R_queue dX6_minute_163 ?_
                  refine lv_dup hx hb dX6_minute_166 rfl ?_
                  refine gN S hK hP i3 e_Q rfl 8 (by decide) nw_RX6_262 f_Q_minutes dX6_minute_167 ?_
                  refine lv_iconst (v := 1) hx hb dX6_minute_170 (by decide) ?_
                  refine lv_iadd hx hb dX6_minute_171 ?_
                  refine pN S hK had hP hS i3 tyX3_ok nmX3 e_Q rfl 8 (by decide) nw_RX6_262 rfl rfl rfl (Nat.lt_of_lt_of_eq (by decide) len_Q.symm) s_Q_minutes dX6_minute_172 (fun M_32 H locs eM_32 hP hS => ?_)
                  have hF := hF M_32 eM_32
                  refine lv_iload hx hb dX6_minute_175 (lv_at hl 0 rfl) ?_
                  exact retI S hr hlocks hP hS hF dX6_minute_177
                · have hF := hF.2 c_31
                  refine lv_iconst (v := 2) hx hb dX6_minute_154 (by decide) ?_
                  refine lv_goto (tgt := 159) hx hb dX6_minute_155 (by decide) ?_
                  refine lv_iadd hx hb dX6_minute_159 ?_
                  refine lv_istore (lv' := [(4, .int (((100 : Int32) * (r_26 + (1 : Int32))) + (2 : Int32))), (3, .int r_6), (0, .ref (ad 0)), (1, .int a1), (2, .int a2)]) hx hb dX6_minute_160 hl (by decide) rfl (fun ls hl => ?_)
                  refine lv_aload_n hx hb dX6_minute_162 rfl (lv_at hl 2 rfl) ?_
                  refine gF S hK hP i6 e_R rfl 5 (by decide) k51 f_R_queue dX6_minute_163 ?_
                  refine lv_dup hx hb dX6_minute_166 rfl ?_
                  refine gN S hK hP i3 e_Q rfl 8 (by decide) nw_RX6_262 f_Q_minutes dX6_minute_167 ?_
                  refine lv_iconst (v := 1) hx hb dX6_minute_170 (by decide) ?_
                  refine lv_iadd hx hb dX6_minute_171 ?_
                  refine pN S hK had hP hS i3 tyX3_ok nmX3 e_Q rfl 8 (by decide) nw_RX6_262 rfl rfl rfl (Nat.lt_of_lt_of_eq (by decide) len_Q.symm) s_Q_minutes dX6_minute_172 (fun M_33 H locs eM_33 hP hS => ?_)
                  have hF := hF M_33 eM_33
                  refine lv_iload hx hb dX6_minute_175 (lv_at hl 0 rfl) ?_
                  exact retI S hr hlocks hP hS hF dX6_minute_177
        · have hF := hF.2 c_7
          refine lv_aload_n hx hb dX6_minute_51 rfl (lv_at hl 1 rfl) ?_
          refine gF S hK hP i6 e_R rfl 5 (by decide) k51 f_R_queue dX6_minute_52 ?_
          refine goZ (rV (rest := []) S hK hP (ctX3_isFull l D cI cJ ad had  _ _ hF) (cwV 0 hts gX6_minute_X3_isFull rfl rfl rfl hdV_X3_isFull ⟨Nat.le_of_ble_eq_true rfl, Nat.le_of_ble_eq_true rfl⟩) e_Q rfl rfl hl.1 rfl (Nat.le_of_ble_eq_true rfl) dX6_minute_55 ⟨Nat.zero_le _, Nat.zero_le _⟩) hS (fun _ h => h) (fun r_34 M_34 H locs hP hS hz_r_34 hF => ?_)
          refine lv_if_eq (tgt := 64) hx hb dX6_minute_58 (by decide) (fun c_35 => ?_) (fun c_35 => ?_)
          · have hF := hF.1 c_35
            refine lv_aload_n hx hb dX6_minute_64 rfl (lv_at hl 1 rfl) ?_
            refine gF S hK hP i6 e_R rfl 5 (by decide) k51 f_R_queue dX6_minute_65 ?_
            refine goV (rV (rest := []) S hK hP (ctX3_allWait l D cI cJ ad had  _ _ hF) (cwV 0 hts gX6_minute_X3_allWait rfl rfl rfl hdV_X3_allWait ⟨Nat.le_of_ble_eq_true rfl, Nat.le_of_ble_eq_true rfl⟩) e_Q rfl rfl hl.1 rfl (Nat.le_of_ble_eq_true rfl) dX6_minute_68 ⟨Nat.zero_le _, Nat.zero_le _⟩) hS (fun _ h => h) (fun M_36 H locs hP hS hF => ?_)
            refine lv_iconst (v := 0) hx hb dX6_minute_71 (by decide) ?_
            refine lv_istore (lv' := [(4, .int (0 : Int32)), (3, .int r_6), (0, .ref (ad 0)), (1, .int a1), (2, .int a2)]) hx hb dX6_minute_72 hl (by decide) rfl (fun ls hl => ?_)
            refine lv_aload_n hx hb dX6_minute_74 rfl (lv_at hl 2 rfl) ?_
            refine gF S hK hP i6 e_R rfl 5 (by decide) k51 f_R_queue dX6_minute_75 ?_
            refine gN S hK hP i3 e_Q rfl 7 (by decide) nw_RX6_249 f_Q_standing dX6_minute_78 ?_
            refine lv_if_le (tgt := 124) hx hb dX6_minute_81 (by decide) (fun c_37 => ?_) (fun c_37 => ?_)
            · have hF := hF.1 c_37
              refine lv_iload_n hx hb dX6_minute_124 rfl (lv_at hl 1 rfl) ?_
              refine lv_bipush (v := -9) hx hb dX6_minute_125 (by decide) ?_
              refine lv_icmp_eq (tgt := 162) hx hb dX6_minute_127 (by decide) (fun c_38 => ?_) (fun c_38 => ?_)
              · have hF := hF.1 c_38
                refine lv_aload_n hx hb dX6_minute_162 rfl (lv_at hl 2 rfl) ?_
                refine gF S hK hP i6 e_R rfl 5 (by decide) k51 f_R_queue dX6_minute_163 ?_
                refine lv_dup hx hb dX6_minute_166 rfl ?_
                refine gN S hK hP i3 e_Q rfl 8 (by decide) nw_RX6_262 f_Q_minutes dX6_minute_167 ?_
                refine lv_iconst (v := 1) hx hb dX6_minute_170 (by decide) ?_
                refine lv_iadd hx hb dX6_minute_171 ?_
                refine pN S hK had hP hS i3 tyX3_ok nmX3 e_Q rfl 8 (by decide) nw_RX6_262 rfl rfl rfl (Nat.lt_of_lt_of_eq (by decide) len_Q.symm) s_Q_minutes dX6_minute_172 (fun M_39 H locs eM_39 hP hS => ?_)
                have hF := hF M_39 eM_39
                refine lv_iload hx hb dX6_minute_175 (lv_at hl 0 rfl) ?_
                exact retI S hr hlocks hP hS hF dX6_minute_177
              · have hF := hF.2 c_38
                refine lv_iload hx hb dX6_minute_130 (lv_at hl 0 rfl) ?_
                refine lv_aload_n hx hb dX6_minute_132 rfl (lv_at hl 2 rfl) ?_
                refine gF S hK hP i6 e_R rfl 5 (by decide) k51 f_R_queue dX6_minute_133 ?_
                refine lv_iload_n hx hb dX6_minute_136 rfl (lv_at hl 1 rfl) ?_
                refine lv_aload_n hx hb dX6_minute_137 rfl (lv_at hl 2 rfl) ?_
                refine gF S hK hP i6 e_R rfl 2 (by decide) k30 f_R_here dX6_minute_138 ?_
                refine gN S hK hP i2 e_P rfl 2 (by decide) nw_RX6_135 f_P_bars dX6_minute_141 ?_
                refine lv_iload_n hx hb dX6_minute_144 rfl (lv_at hl 1 rfl) ?_
                refine goI (rS (rest := [.int r_6, .ref (ad 6), .int (0 : Int32)]) S hK hP (ctX6_at l D cI cJ ad had 15 rfl r_6 _ _ hF) (va_cwS 2 hts gX6_minute_X6_at rfl rfl rfl hdS_X6_at ⟨Nat.le_of_ble_eq_true rfl, Nat.le_of_ble_eq_true rfl⟩) rfl hl.1 rfl (Nat.le_of_ble_eq_true rfl) dX6_minute_145 ⟨Nat.zero_le _, Nat.zero_le _⟩) hS (fun _ h => h) (fun r_40 M_40 H locs hP hS hF => ?_)
                refine goZ (rV (rest := [.int (0 : Int32)]) S hK hP (ctX3_comes l D cI cJ ad had r_6 r_40 _ _ hF) (cwV 2 hts gX6_minute_X3_comes rfl rfl rfl hdV_X3_comes ⟨Nat.le_of_ble_eq_true rfl, Nat.le_of_ble_eq_true rfl⟩) e_Q rfl rfl hl.1 rfl (Nat.le_of_ble_eq_true rfl) dX6_minute_148 ⟨Nat.zero_le _, Nat.zero_le _⟩) hS (fun _ h => h) (fun r_41 M_41 H locs hP hS hz_r_41 hF => ?_)
                refine lv_if_eq (tgt := 158) hx hb dX6_minute_151 (by decide) (fun c_42 => ?_) (fun c_42 => ?_)
                · have hF := hF.1 c_42
                  refine lv_iconst (v := 1) hx hb dX6_minute_158 (by decide) ?_
                  refine lv_iadd hx hb dX6_minute_159 ?_
                  refine lv_istore (lv' := [(4, .int ((0 : Int32) + (1 : Int32))), (3, .int r_6), (0, .ref (ad 0)), (1, .int a1), (2, .int a2)]) hx hb dX6_minute_160 hl (by decide) rfl (fun ls hl => ?_)
                  refine lv_aload_n hx hb dX6_minute_162 rfl (lv_at hl 2 rfl) ?_
                  refine gF S hK hP i6 e_R rfl 5 (by decide) k51 f_R_queue dX6_minute_163 ?_
                  refine lv_dup hx hb dX6_minute_166 rfl ?_
                  refine gN S hK hP i3 e_Q rfl 8 (by decide) nw_RX6_262 f_Q_minutes dX6_minute_167 ?_
                  refine lv_iconst (v := 1) hx hb dX6_minute_170 (by decide) ?_
                  refine lv_iadd hx hb dX6_minute_171 ?_
                  refine pN S hK had hP hS i3 tyX3_ok nmX3 e_Q rfl 8 (by decide) nw_RX6_262 rfl rfl rfl (Nat.lt_of_lt_of_eq (by decide) len_Q.symm) s_Q_minutes dX6_minute_172 (fun M_43 H locs eM_43 hP hS => ?_)
                  have hF := hF M_43 eM_43
                  refine lv_iload hx hb dX6_minute_175 (lv_at hl 0 rfl) ?_
                  exact retI S hr hlocks hP hS hF dX6_minute_177
                · have hF := hF.2 c_42
                  refine lv_iconst (v := 2) hx hb dX6_minute_154 (by decide) ?_
                  refine lv_goto (tgt := 159) hx hb dX6_minute_155 (by decide) ?_
                  refine lv_iadd hx hb dX6_minute_159 ?_
                  refine lv_istore (lv' := [(4, .int ((0 : Int32) + (2 : Int32))), (3, .int r_6), (0, .ref (ad 0)), (1, .int a1), (2, .int a2)]) hx hb dX6_minute_160 hl (by decide) rfl (fun ls hl => ?_)
                  refine lv_aload_n hx hb dX6_minute_162 rfl (lv_at hl 2 rfl) ?_
                  refine gF S hK hP i6 e_R rfl 5 (by decide) k51 f_R_queue dX6_minute_163 ?_
                  refine lv_dup hx hb dX6_minute_166 rfl ?_
                  refine gN S hK hP i3 e_Q rfl 8 (by decide) nw_RX6_262 f_Q_minutes dX6_minute_167 ?_
                  refine lv_iconst (v := 1) hx hb dX6_minute_170 (by decide) ?_
                  refine lv_iadd hx hb dX6_minute_171 ?_
                  refine pN S hK had hP hS i3 tyX3_ok nmX3 e_Q rfl 8 (by decide) nw_RX6_262 rfl rfl rfl (Nat.lt_of_lt_of_eq (by decide) len_Q.symm) s_Q_minutes dX6_minute_172 (fun M_44 H locs eM_44 hP hS => ?_)
                  have hF := hF M_44 eM_44
                  refine lv_iload hx hb dX6_minute_175 (lv_at hl 0 rfl) ?_
                  exact retI S hr hlocks hP hS hF dX6_minute_177
            · have hF := hF.2 c_37
              refine lv_iload_n hx hb dX6_minute_84 rfl (lv_at hl 3 rfl) ?_
              refine lv_aload_n hx hb dX6_minute_85 rfl (lv_at hl 2 rfl) ?_
              refine gF S hK hP i6 e_R rfl 2 (by decide) k30 f_R_here dX6_minute_86 ?_
              refine gN S hK hP i2 e_P rfl 4 (by decide) nw_RX6_104 f_P_served dX6_minute_89 ?_
              refine lv_icmp_ge (tgt := 124) hx hb dX6_minute_92 (by decide) (fun c_45 => ?_) (fun c_45 => ?_)
              · have hF := hF.1 c_45
                refine lv_iload_n hx hb dX6_minute_124 rfl (lv_at hl 1 rfl) ?_
                refine lv_bipush (v := -9) hx hb dX6_minute_125 (by decide) ?_
                refine lv_icmp_eq (tgt := 162) hx hb dX6_minute_127 (by decide) (fun c_46 => ?_) (fun c_46 => ?_)
                · have hF := hF.1 c_46
                  refine lv_aload_n hx hb dX6_minute_162 rfl (lv_at hl 2 rfl) ?_
                  refine gF S hK hP i6 e_R rfl 5 (by decide) k51 f_R_queue dX6_minute_163 ?_
                  refine lv_dup hx hb dX6_minute_166 rfl ?_
                  refine gN S hK hP i3 e_Q rfl 8 (by decide) nw_RX6_262 f_Q_minutes dX6_minute_167 ?_
                  refine lv_iconst (v := 1) hx hb dX6_minute_170 (by decide) ?_
                  refine lv_iadd hx hb dX6_minute_171 ?_
                  refine pN S hK had hP hS i3 tyX3_ok nmX3 e_Q rfl 8 (by decide) nw_RX6_262 rfl rfl rfl (Nat.lt_of_lt_of_eq (by decide) len_Q.symm) s_Q_minutes dX6_minute_172 (fun M_47 H locs eM_47 hP hS => ?_)
                  have hF := hF M_47 eM_47
                  refine lv_iload hx hb dX6_minute_175 (lv_at hl 0 rfl) ?_
                  exact retI S hr hlocks hP hS hF dX6_minute_177
                · have hF := hF.2 c_46
                  refine lv_iload hx hb dX6_minute_130 (lv_at hl 0 rfl) ?_
                  refine lv_aload_n hx hb dX6_minute_132 rfl (lv_at hl 2 rfl) ?_
                  refine gF S hK hP i6 e_R rfl 5 (by decide) k51 f_R_queue dX6_minute_133 ?_
                  refine lv_iload_n hx hb dX6_minute_136 rfl (lv_at hl 1 rfl) ?_
                  refine lv_aload_n hx hb dX6_minute_137 rfl (lv_at hl 2 rfl) ?_
                  refine gF S hK hP i6 e_R rfl 2 (by decide) k30 f_R_here dX6_minute_138 ?_
                  refine gN S hK hP i2 e_P rfl 2 (by decide) nw_RX6_135 f_P_bars dX6_minute_141 ?_
                  refine lv_iload_n hx hb dX6_minute_144 rfl (lv_at hl 1 rfl) ?_
                  refine goI (rS (rest := [.int r_6, .ref (ad 6), .int (0 : Int32)]) S hK hP (ctX6_at l D cI cJ ad had 15 rfl r_6 _ _ hF) (va_cwS 2 hts gX6_minute_X6_at rfl rfl rfl hdS_X6_at ⟨Nat.le_of_ble_eq_true rfl, Nat.le_of_ble_eq_true rfl⟩) rfl hl.1 rfl (Nat.le_of_ble_eq_true rfl) dX6_minute_145 ⟨Nat.zero_le _, Nat.zero_le _⟩) hS (fun _ h => h) (fun r_48 M_48 H locs hP hS hF => ?_)
                  refine goZ (rV (rest := [.int (0 : Int32)]) S hK hP (ctX3_comes l D cI cJ ad had r_6 r_48 _ _ hF) (cwV 2 hts gX6_minute_X3_comes rfl rfl rfl hdV_X3_comes ⟨Nat.le_of_ble_eq_true rfl, Nat.le_of_ble_eq_true rfl⟩) e_Q rfl rfl hl.1 rfl (Nat.le_of_ble_eq_true rfl) dX6_minute_148 ⟨Nat.zero_le _, Nat.zero_le _⟩) hS (fun _ h => h) (fun r_49 M_49 H locs hP hS hz_r_49 hF => ?_)
                  refine lv_if_eq (tgt := 158) hx hb dX6_minute_151 (by decide) (fun c_50 => ?_) (fun c_50 => ?_)
                  · have hF := hF.1 c_50
                    refine lv_iconst (v := 1) hx hb dX6_minute_158 (by decide) ?_
                    refine lv_iadd hx hb dX6_minute_159 ?_
                    refine lv_istore (lv' := [(4, .int ((0 : Int32) + (1 : Int32))), (3, .int r_6), (0, .ref (ad 0)), (1, .int a1), (2, .int a2)]) hx hb dX6_minute_160 hl (by decide) rfl (fun ls hl => ?_)
                    refine lv_aload_n hx hb dX6_minute_162 rfl (lv_at hl 2 rfl) ?_
                    refine gF S hK hP i6 e_R rfl 5 (by decide) k51 f_R_queue dX6_minute_163 ?_
                    refine lv_dup hx hb dX6_minute_166 rfl ?_
                    refine gN S hK hP i3 e_Q rfl 8 (by decide) nw_RX6_262 f_Q_minutes dX6_minute_167 ?_
                    refine lv_iconst (v := 1) hx hb dX6_minute_170 (by decide) ?_
                    refine lv_iadd hx hb dX6_minute_171 ?_
                    refine pN S hK had hP hS i3 tyX3_ok nmX3 e_Q rfl 8 (by decide) nw_RX6_262 rfl rfl rfl (Nat.lt_of_lt_of_eq (by decide) len_Q.symm) s_Q_minutes dX6_minute_172 (fun M_51 H locs eM_51 hP hS => ?_)
                    have hF := hF M_51 eM_51
                    refine lv_iload hx hb dX6_minute_175 (lv_at hl 0 rfl) ?_
                    exact retI S hr hlocks hP hS hF dX6_minute_177
                  · have hF := hF.2 c_50
                    refine lv_iconst (v := 2) hx hb dX6_minute_154 (by decide) ?_
                    refine lv_goto (tgt := 159) hx hb dX6_minute_155 (by decide) ?_
                    refine lv_iadd hx hb dX6_minute_159 ?_
                    refine lv_istore (lv' := [(4, .int ((0 : Int32) + (2 : Int32))), (3, .int r_6), (0, .ref (ad 0)), (1, .int a1), (2, .int a2)]) hx hb dX6_minute_160 hl (by decide) rfl (fun ls hl => ?_)
                    refine lv_aload_n hx hb dX6_minute_162 rfl (lv_at hl 2 rfl) ?_
                    refine gF S hK hP i6 e_R rfl 5 (by decide) k51 f_R_queue dX6_minute_163 ?_
                    refine lv_dup hx hb dX6_minute_166 rfl ?_
                    refine gN S hK hP i3 e_Q rfl 8 (by decide) nw_RX6_262 f_Q_minutes dX6_minute_167 ?_
                    refine lv_iconst (v := 1) hx hb dX6_minute_170 (by decide) ?_
                    refine lv_iadd hx hb dX6_minute_171 ?_
                    refine pN S hK had hP hS i3 tyX3_ok nmX3 e_Q rfl 8 (by decide) nw_RX6_262 rfl rfl rfl (Nat.lt_of_lt_of_eq (by decide) len_Q.symm) s_Q_minutes dX6_minute_172 (fun M_52 H locs eM_52 hP hS => ?_)
                    have hF := hF M_52 eM_52
                    refine lv_iload hx hb dX6_minute_175 (lv_at hl 0 rfl) ?_
                    exact retI S hr hlocks hP hS hF dX6_minute_177
              · have hF := hF.2 c_45
                refine lv_bipush (v := 100) hx hb dX6_minute_95 (by decide) ?_
                refine lv_aload_n hx hb dX6_minute_97 rfl (lv_at hl 2 rfl) ?_
                refine gF S hK hP i6 e_R rfl 5 (by decide) k51 f_R_queue dX6_minute_98 ?_
                refine lv_aload_n hx hb dX6_minute_101 rfl (lv_at hl 2 rfl) ?_
                refine gF S hK hP i6 e_R rfl 5 (by decide) k51 f_R_queue dX6_minute_102 ?_
                refine lv_aload_n hx hb dX6_minute_105 rfl (lv_at hl 2 rfl) ?_
                refine gF S hK hP i6 e_R rfl 6 (by decide) k236 f_R_orderNow dX6_minute_106 ?_
                refine lv_aload_n hx hb dX6_minute_109 rfl (lv_at hl 2 rfl) ?_
                refine gF S hK hP i6 e_R rfl 2 (by decide) k30 f_R_here dX6_minute_110 ?_
                refine goI (rV (rest := [.ref (ad 6), .int (100 : Int32)]) S hK hP (ctX3_nextBy l D cI cJ ad had (gi M_36 0) _ _ hF) (cwV 2 hts gX6_minute_X3_nextBy rfl rfl rfl hdV_X3_nextBy ⟨Nat.le_of_ble_eq_true rfl, Nat.le_of_ble_eq_true rfl⟩) e_Q rfl rfl hl.1 rfl (Nat.le_of_ble_eq_true rfl) dX6_minute_113 ⟨Nat.zero_le _, Nat.zero_le _⟩) hS (fun _ h => h) (fun r_53 M_53 H locs hP hS hF => ?_)
                refine goI (rV (rest := [.int (100 : Int32)]) S hK hP (ctX3_serve l D cI cJ ad had r_53 _ _ hF) (cwV 1 hts gX6_minute_X3_serve rfl rfl rfl hdV_X3_serve ⟨Nat.le_of_ble_eq_true rfl, Nat.le_of_ble_eq_true rfl⟩) e_Q rfl rfl hl.1 rfl (Nat.le_of_ble_eq_true rfl) dX6_minute_116 ⟨Nat.zero_le _, Nat.zero_le _⟩) hS (fun _ h => h) (fun r_54 M_54 H locs hP hS hF => ?_)
                refine lv_iconst (v := 1) hx hb dX6_minute_119 (by decide) ?_
                refine lv_iadd hx hb dX6_minute_120 ?_
                refine lv_imul hx hb dX6_minute_121 ?_
                refine lv_istore (lv' := [(4, .int ((100 : Int32) * (r_54 + (1 : Int32)))), (3, .int r_6), (0, .ref (ad 0)), (1, .int a1), (2, .int a2)]) hx hb dX6_minute_122 hl (by decide) rfl (fun ls hl => ?_)
                refine lv_iload_n hx hb dX6_minute_124 rfl (lv_at hl 1 rfl) ?_
                refine lv_bipush (v := -9) hx hb dX6_minute_125 (by decide) ?_
                refine lv_icmp_eq (tgt := 162) hx hb dX6_minute_127 (by decide) (fun c_55 => ?_) (fun c_55 => ?_)
                · have hF := hF.1 c_55
                  refine lv_aload_n hx hb dX6_minute_162 rfl (lv_at hl 2 rfl) ?_
                  refine gF S hK hP i6 e_R rfl 5 (by decide) k51 f_R_queue dX6_minute_163 ?_
                  refine lv_dup hx hb dX6_minute_166 rfl ?_
                  refine gN S hK hP i3 e_Q rfl 8 (by decide) nw_RX6_262 f_Q_minutes dX6_minute_167 ?_
                  refine lv_iconst (v := 1) hx hb dX6_minute_170 (by decide) ?_
                  refine lv_iadd hx hb dX6_minute_171 ?_
                  refine pN S hK had hP hS i3 tyX3_ok nmX3 e_Q rfl 8 (by decide) nw_RX6_262 rfl rfl rfl (Nat.lt_of_lt_of_eq (by decide) len_Q.symm) s_Q_minutes dX6_minute_172 (fun M_56 H locs eM_56 hP hS => ?_)
                  have hF := hF M_56 eM_56
                  refine lv_iload hx hb dX6_minute_175 (lv_at hl 0 rfl) ?_
                  exact retI S hr hlocks hP hS hF dX6_minute_177
                · have hF := hF.2 c_55
                  refine lv_iload hx hb dX6_minute_130 (lv_at hl 0 rfl) ?_
                  refine lv_aload_n hx hb dX6_minute_132 rfl (lv_at hl 2 rfl) ?_
                  refine gF S hK hP i6 e_R rfl 5 (by decide) k51 f_R_queue dX6_minute_133 ?_
                  refine lv_iload_n hx hb dX6_minute_136 rfl (lv_at hl 1 rfl) ?_
                  refine lv_aload_n hx hb dX6_minute_137 rfl (lv_at hl 2 rfl) ?_
                  refine gF S hK hP i6 e_R rfl 2 (by decide) k30 f_R_here dX6_minute_138 ?_
                  refine gN S hK hP i2 e_P rfl 2 (by decide) nw_RX6_135 f_P_bars dX6_minute_141 ?_
                  refine lv_iload_n hx hb dX6_minute_144 rfl (lv_at hl 1 rfl) ?_
                  refine goI (rS (rest := [.int r_6, .ref (ad 6), .int ((100 : Int32) * (r_54 + (1 : Int32)))]) S hK hP (ctX6_at l D cI cJ ad had 15 rfl r_6 _ _ hF) (va_cwS 2 hts gX6_minute_X6_at rfl rfl rfl hdS_X6_at ⟨Nat.le_of_ble_eq_true rfl, Nat.le_of_ble_eq_true rfl⟩) rfl hl.1 rfl (Nat.le_of_ble_eq_true rfl) dX6_minute_145 ⟨Nat.zero_le _, Nat.zero_le _⟩) hS (fun _ h => h) (fun r_57 M_57 H locs hP hS hF => ?_)
                  refine goZ (rV (rest := [.int ((100 : Int32) * (r_54 + (1 : Int32)))]) S hK hP (ctX3_comes l D cI cJ ad had r_6 r_57 _ _ hF) (cwV 2 hts gX6_minute_X3_comes rfl rfl rfl hdV_X3_comes ⟨Nat.le_of_ble_eq_true rfl, Nat.le_of_ble_eq_true rfl⟩) e_Q rfl rfl hl.1 rfl (Nat.le_of_ble_eq_true rfl) dX6_minute_148 ⟨Nat.zero_le _, Nat.zero_le _⟩) hS (fun _ h => h) (fun r_58 M_58 H locs hP hS hz_r_58 hF => ?_)
                  refine lv_if_eq (tgt := 158) hx hb dX6_minute_151 (by decide) (fun c_59 => ?_) (fun c_59 => ?_)
                  · have hF := hF.1 c_59
                    refine lv_iconst (v := 1) hx hb dX6_minute_158 (by decide) ?_
                    refine lv_iadd hx hb dX6_minute_159 ?_
                    refine lv_istore (lv' := [(4, .int (((100 : Int32) * (r_54 + (1 : Int32))) + (1 : Int32))), (3, .int r_6), (0, .ref (ad 0)), (1, .int a1), (2, .int a2)]) hx hb dX6_minute_160 hl (by decide) rfl (fun ls hl => ?_)
                    refine lv_aload_n hx hb dX6_minute_162 rfl (lv_at hl 2 rfl) ?_
                    refine gF S hK hP i6 e_R rfl 5 (by decide) k51 f_R_queue dX6_minute_163 ?_
                    refine lv_dup hx hb dX6_minute_166 rfl ?_
                    refine gN S hK hP i3 e_Q rfl 8 (by decide) nw_RX6_262 f_Q_minutes dX6_minute_167 ?_
                    refine lv_iconst (v := 1) hx hb dX6_minute_170 (by decide) ?_
                    refine lv_iadd hx hb dX6_minute_171 ?_
                    refine pN S hK had hP hS i3 tyX3_ok nmX3 e_Q rfl 8 (by decide) nw_RX6_262 rfl rfl rfl (Nat.lt_of_lt_of_eq (by decide) len_Q.symm) s_Q_minutes dX6_minute_172 (fun M_60 H locs eM_60 hP hS => ?_)
                    have hF := hF M_60 eM_60
                    refine lv_iload hx hb dX6_minute_175 (lv_at hl 0 rfl) ?_
                    exact retI S hr hlocks hP hS hF dX6_minute_177
                  · have hF := hF.2 c_59
                    refine lv_iconst (v := 2) hx hb dX6_minute_154 (by decide) ?_
                    refine lv_goto (tgt := 159) hx hb dX6_minute_155 (by decide) ?_
                    refine lv_iadd hx hb dX6_minute_159 ?_
                    refine lv_istore (lv' := [(4, .int (((100 : Int32) * (r_54 + (1 : Int32))) + (2 : Int32))), (3, .int r_6), (0, .ref (ad 0)), (1, .int a1), (2, .int a2)]) hx hb dX6_minute_160 hl (by decide) rfl (fun ls hl => ?_)
                    refine lv_aload_n hx hb dX6_minute_162 rfl (lv_at hl 2 rfl) ?_
                    refine gF S hK hP i6 e_R rfl 5 (by decide) k51 f_R_queue dX6_minute_163 ?_
                    refine lv_dup hx hb dX6_minute_166 rfl ?_
                    refine gN S hK hP i3 e_Q rfl 8 (by decide) nw_RX6_262 f_Q_minutes dX6_minute_167 ?_
                    refine lv_iconst (v := 1) hx hb dX6_minute_170 (by decide) ?_
                    refine lv_iadd hx hb dX6_minute_171 ?_
                    refine pN S hK had hP hS i3 tyX3_ok nmX3 e_Q rfl 8 (by decide) nw_RX6_262 rfl rfl rfl (Nat.lt_of_lt_of_eq (by decide) len_Q.symm) s_Q_minutes dX6_minute_172 (fun M_61 H locs eM_61 hP hS => ?_)
                    have hF := hF M_61 eM_61
                    refine lv_iload hx hb dX6_minute_175 (lv_at hl 0 rfl) ?_
                    exact retI S hr hlocks hP hS hF dX6_minute_177
          · have hF := hF.2 c_35
            refine lv_bipush (v := -4) hx hb dX6_minute_61 (by decide) ?_
            exact retI S hr hlocks hP hS hF dX6_minute_63
      · have hF := hF.1 c_5
        refine lv_bipush (v := -3) hx hb dX6_minute_33 (by decide) ?_
        exact retI S hr hlocks hP hS hF dX6_minute_35
    · have hF := hF.1 c_4
      refine lv_bipush (v := -2) hx hb dX6_minute_20 (by decide) ?_
      exact retI S hr hlocks hP hS hF dX6_minute_22
def wX6_isKind (a1 : Int32) (a2 : Int32) (Q : Int32 → Mm → Prop) (M : Mm) : Prop := (wX6_at 26 a1 (fun r_1 M_1 => ((r_1 < a2 → (Q (0 : Int32) M_1)) ∧ (¬ r_1 < a2 → (Q (1 : Int32) M_1)))) M)
set_option maxHeartbeats 4000000 in
set_option maxRecDepth 100000 in
theorem ctX6_isKind (l : Launch) (D : va_G) (cI cJ : ClassId) (ad : Nat → Nat) (had : inj54 ad) (a1 : Int32) (a2 : Int32) (Q : Int32 → Mm → Prop) (M : Mm) (hF : wX6_isKind a1 a2 Q M) : Met l yX6_isKind wsX6_isKind ({ frames := 1, cells := 0, slots := 0, locals := 21 } : Room) (PcW D cI cJ ad M [.ref (ad 0), .int a1, .int a2]) (QzW D cI cJ ad Q) 0 0 (Fr ad) := by
  refine entW (y := yX6_isKind) (ret := some .boolean) (maxL := 3) (plainFor_of_name (by decide)) rfl (Nat.le_of_ble_eq_true rfl) ?_
  intro p e s m args below meth c ls S hK hr hlocks hP hS hl
  have hx := S.1
  have hb := S.2.1
  have hown := S.2.2.2.1
  have hts := S.2.2.2.2
  have i6 : ∀ w ∈ wsX60, w ∈ wsX6_isKind := by decide +kernel
  have i3 : ∀ w ∈ wsX30, w ∈ wsX6_isKind := by decide +kernel
  have k51 := hts (.fieldLink RX6 51 "RopeLine" "queue" "LRopeLine$Queue;") (by decide +kernel)
  have hl : lv_has ls 3 [(0, .ref (ad 0)), (1, .int a1), (2, .int a2)] := hl
  unfold wX6_isKind at hF
  refine lv_aload_n hx hb dX6_isKind_0 rfl (lv_at hl 0 rfl) ?_
  refine gF S hK hP i6 e_R rfl 5 (by decide) k51 f_R_queue dX6_isKind_1 ?_
  refine gN S hK hP i3 e_Q rfl 0 (by decide) nw_RX6_266 f_Q_kinds dX6_isKind_4 ?_
  refine lv_iload_n hx hb dX6_isKind_7 rfl (lv_at hl 1 rfl) ?_
  refine goI (rS (rest := []) S hK hP (ctX6_at l D cI cJ ad had 26 rfl a1 _ _ hF) (va_cwS 2 hts gX6_isKind_X6_at rfl rfl rfl hdS_X6_at ⟨Nat.le_of_ble_eq_true rfl, Nat.le_of_ble_eq_true rfl⟩) rfl hl.1 rfl (Nat.le_of_ble_eq_true rfl) dX6_isKind_8 ⟨Nat.zero_le _, Nat.zero_le _⟩) hS (fun _ h => h) (fun r_1 M_1 H locs hP hS hF => ?_)
  refine lv_iload_n hx hb dX6_isKind_11 rfl (lv_at hl 2 rfl) ?_
  refine lv_icmp_lt (tgt := 19) hx hb dX6_isKind_12 (by decide) (fun c_2 => ?_) (fun c_2 => ?_)
  · have hF := hF.1 c_2
    refine lv_iconst (v := 0) hx hb dX6_isKind_19 (by decide) ?_
    exact retZ S hr hlocks hP hS rfl hF dX6_isKind_20
  · have hF := hF.2 c_2
    refine lv_iconst (v := 1) hx hb dX6_isKind_15 (by decide) ?_
    refine lv_goto (tgt := 20) hx hb dX6_isKind_16 (by decide) ?_
    exact retZ S hr hlocks hP hS rfl hF dX6_isKind_20
def wX6_ofComer (a1 : Int32) (a2 : Int32) (Q : Int32 → Mm → Prop) (M : Mm) : Prop := (wX3_has a1 (fun r_1 M_1 => ((r_1 = 0 → (Q (-1 : Int32) M_1)) ∧ (¬ r_1 = 0 → ((a2 = 0 → (wX6_at 26 a1 (fun r_4 M_4 => (Q r_4 M_4)) M_1)) ∧ (¬ a2 = 0 → ((a2 = 1 → (wX6_at 27 a1 (fun r_6 M_6 => (Q r_6 M_6)) M_1)) ∧ (¬ a2 = 1 → ((a2 = 2 → (wX6_at 28 a1 (fun r_8 M_8 => (Q r_8 M_8)) M_1)) ∧ (¬ a2 = 2 → ((a2 = 3 → (wX6_at 29 a1 (fun r_10 M_10 => (Q r_10 M_10)) M_1)) ∧ (¬ a2 = 3 → ((a2 = 4 → (wX6_at 30 a1 (fun r_12 M_12 => (Q r_12 M_12)) M_1)) ∧ (¬ a2 = 4 → ((a2 = 5 → (wX6_isKind a1 (2 : Int32) (fun r_14 M_14 => ((r_14 = 0 → (Q (0 : Int32) M_14)) ∧ (¬ r_14 = 0 → (wX6_at 27 a1 (fun r_16 M_16 => (wX6_at 14 r_16 (fun r_17 M_17 => (wX6_at 28 a1 (fun r_18 M_18 => (Q (r_17 - ((gi M_17 13) * r_18)) M_18)) M_17)) M_16)) M_14)))) M_1)) ∧ (¬ a2 = 5 → (Q (-2 : Int32) M_1)))))))))))))))) M)
set_option maxHeartbeats 4000000 in
set_option maxRecDepth 100000 in
theorem ctX6_ofComer (l : Launch) (D : va_G) (cI cJ : ClassId) (ad : Nat → Nat) (had : inj54 ad) (a1 : Int32) (a2 : Int32) (Q : Int32 → Mm → Prop) (M : Mm) (hF : wX6_ofComer a1 a2 Q M) : Met l yX6_ofComer wsX6_ofComer ({ frames := 2, cells := 0, slots := 0, locals := 43 } : Room) (PcW D cI cJ ad M [.ref (ad 0), .int a1, .int a2]) (QiW D cI cJ ad Q) 0 0 (Fr ad) := by
  refine entW (y := yX6_ofComer) (ret := some .int) (maxL := 3) (plainFor_of_name (by decide)) rfl (Nat.le_of_ble_eq_true rfl) ?_
  intro p e s m args below meth c ls S hK hr hlocks hP hS hl
  have hx := S.1
  have hb := S.2.1
  have hown := S.2.2.2.1
  have hts := S.2.2.2.2
  have i6 : ∀ w ∈ wsX60, w ∈ wsX6_ofComer := by decide +kernel
  have i3 : ∀ w ∈ wsX30, w ∈ wsX6_ofComer := by decide +kernel
  have i2 : ∀ w ∈ wsX20, w ∈ wsX6_ofComer := by decide +kernel
  have k51 := hts (.fieldLink RX6 51 "RopeLine" "queue" "LRopeLine$Queue;") (by decide +kernel)
  have k30 := hts (.fieldLink RX6 30 "RopeLine" "here" "LRopeLine$Place;") (by decide +kernel)
  have hl : lv_has ls 3 [(0, .ref (ad 0)), (1, .int a1), (2, .int a2)] := hl
  unfold wX6_ofComer at hF
  refine lv_aload_n hx hb dX6_ofComer_0 rfl (lv_at hl 0 rfl) ?_
  refine gF S hK hP i6 e_R rfl 5 (by decide) k51 f_R_queue dX6_ofComer_1 ?_
  refine lv_iload_n hx hb dX6_ofComer_4 rfl (lv_at hl 1 rfl) ?_
  refine goZ (rV (rest := []) S hK hP (ctX3_has l D cI cJ ad had a1 _ _ hF) (cwV 1 hts gX6_ofComer_X3_has rfl rfl rfl hdV_X3_has ⟨Nat.le_of_ble_eq_true rfl, Nat.le_of_ble_eq_true rfl⟩) e_Q rfl rfl hl.1 rfl (Nat.le_of_ble_eq_true rfl) dX6_ofComer_5 ⟨Nat.zero_le _, Nat.zero_le _⟩) hS (fun _ h => h) (fun r_1 M_1 H locs hP hS hz_r_1 hF => ?_)
  refine lv_if_ne (tgt := 13) hx hb dX6_ofComer_8 (by decide) (fun c_2 => ?_) (fun c_2 => ?_)
  · have hF := hF.2 c_2
    refine lv_iload_n hx hb dX6_ofComer_13 rfl (lv_at hl 2 rfl) ?_
    by_cases c_3 : a2 = 0
    · have hF := hF.1 c_3
      refine lv_tableIn (off := 38) (tgt := 52) hx hb dX6_ofComer_14 (by rw [c_3]; decide) (by rw [c_3]; decide) (by rw [c_3]; rfl) (by decide) ?_
      refine lv_aload_n hx hb dX6_ofComer_52 rfl (lv_at hl 0 rfl) ?_
      refine gF S hK hP i6 e_R rfl 5 (by decide) k51 f_R_queue dX6_ofComer_53 ?_
      refine gN S hK hP i3 e_Q rfl 0 (by decide) nw_RX6_266 f_Q_kinds dX6_ofComer_56 ?_
      refine lv_iload_n hx hb dX6_ofComer_59 rfl (lv_at hl 1 rfl) ?_
      refine goI (rS (rest := []) S hK hP (ctX6_at l D cI cJ ad had 26 rfl a1 _ _ hF) (va_cwS 2 hts gX6_ofComer_X6_at rfl rfl rfl hdS_X6_at ⟨Nat.le_of_ble_eq_true rfl, Nat.le_of_ble_eq_true rfl⟩) rfl hl.1 rfl (Nat.le_of_ble_eq_true rfl) dX6_ofComer_60 ⟨Nat.zero_le _, Nat.zero_le _⟩) hS (fun _ h => h) (fun r_4 M_4 H locs hP hS hF => ?_)
      exact retI S hr hlocks hP hS hF dX6_ofComer_63
    · have hF := hF.2 c_3
      by_cases c_5 : a2 = 1
      · have hF := hF.1 c_5
        refine lv_tableIn (off := 50) (tgt := 64) hx hb dX6_ofComer_14 (by rw [c_5]; decide) (by rw [c_5]; decide) (by rw [c_5]; rfl) (by decide) ?_
        refine lv_aload_n hx hb dX6_ofComer_64 rfl (lv_at hl 0 rfl) ?_
        refine gF S hK hP i6 e_R rfl 5 (by decide) k51 f_R_queue dX6_ofComer_65 ?_
        refine gN S hK hP i3 e_Q rfl 1 (by decide) nw_RX6_269 f_Q_sorts dX6_ofComer_68 ?_
        refine lv_iload_n hx hb dX6_ofComer_71 rfl (lv_at hl 1 rfl) ?_
        refine goI (rS (rest := []) S hK hP (ctX6_at l D cI cJ ad had 27 rfl a1 _ _ hF) (va_cwS 2 hts gX6_ofComer_X6_at rfl rfl rfl hdS_X6_at ⟨Nat.le_of_ble_eq_true rfl, Nat.le_of_ble_eq_true rfl⟩) rfl hl.1 rfl (Nat.le_of_ble_eq_true rfl) dX6_ofComer_72 ⟨Nat.zero_le _, Nat.zero_le _⟩) hS (fun _ h => h) (fun r_6 M_6 H locs hP hS hF => ?_)
        exact retI S hr hlocks hP hS hF dX6_ofComer_75
      · have hF := hF.2 c_5
        by_cases c_7 : a2 = 2
        · have hF := hF.1 c_7
          refine lv_tableIn (off := 62) (tgt := 76) hx hb dX6_ofComer_14 (by rw [c_7]; decide) (by rw [c_7]; decide) (by rw [c_7]; rfl) (by decide) ?_
          refine lv_aload_n hx hb dX6_ofComer_76 rfl (lv_at hl 0 rfl) ?_
          refine gF S hK hP i6 e_R rfl 5 (by decide) k51 f_R_queue dX6_ofComer_77 ?_
          refine gN S hK hP i3 e_Q rfl 2 (by decide) nw_RX6_271 f_Q_waited dX6_ofComer_80 ?_
          refine lv_iload_n hx hb dX6_ofComer_83 rfl (lv_at hl 1 rfl) ?_
          refine goI (rS (rest := []) S hK hP (ctX6_at l D cI cJ ad had 28 rfl a1 _ _ hF) (va_cwS 2 hts gX6_ofComer_X6_at rfl rfl rfl hdS_X6_at ⟨Nat.le_of_ble_eq_true rfl, Nat.le_of_ble_eq_true rfl⟩) rfl hl.1 rfl (Nat.le_of_ble_eq_true rfl) dX6_ofComer_84 ⟨Nat.zero_le _, Nat.zero_le _⟩) hS (fun _ h => h) (fun r_8 M_8 H locs hP hS hF => ?_)
          exact retI S hr hlocks hP hS hF dX6_ofComer_87
        · have hF := hF.2 c_7
          by_cases c_9 : a2 = 3
          · have hF := hF.1 c_9
            refine lv_tableIn (off := 74) (tgt := 88) hx hb dX6_ofComer_14 (by rw [c_9]; decide) (by rw [c_9]; decide) (by rw [c_9]; rfl) (by decide) ?_
            refine lv_aload_n hx hb dX6_ofComer_88 rfl (lv_at hl 0 rfl) ?_
            refine gF S hK hP i6 e_R rfl 5 (by decide) k51 f_R_queue dX6_ofComer_89 ?_
            refine gN S hK hP i3 e_Q rfl 3 (by decide) nw_RX6_274 f_Q_cameIn dX6_ofComer_92 ?_
            refine lv_iload_n hx hb dX6_ofComer_95 rfl (lv_at hl 1 rfl) ?_
            refine goI (rS (rest := []) S hK hP (ctX6_at l D cI cJ ad had 29 rfl a1 _ _ hF) (va_cwS 2 hts gX6_ofComer_X6_at rfl rfl rfl hdS_X6_at ⟨Nat.le_of_ble_eq_true rfl, Nat.le_of_ble_eq_true rfl⟩) rfl hl.1 rfl (Nat.le_of_ble_eq_true rfl) dX6_ofComer_96 ⟨Nat.zero_le _, Nat.zero_le _⟩) hS (fun _ h => h) (fun r_10 M_10 H locs hP hS hF => ?_)
            exact retI S hr hlocks hP hS hF dX6_ofComer_99
          · have hF := hF.2 c_9
            by_cases c_11 : a2 = 4
            · have hF := hF.1 c_11
              refine lv_tableIn (off := 86) (tgt := 100) hx hb dX6_ofComer_14 (by rw [c_11]; decide) (by rw [c_11]; decide) (by rw [c_11]; rfl) (by decide) ?_
              refine lv_aload_n hx hb dX6_ofComer_100 rfl (lv_at hl 0 rfl) ?_
              refine gF S hK hP i6 e_R rfl 5 (by decide) k51 f_R_queue dX6_ofComer_101 ?_
              refine gN S hK hP i3 e_Q rfl 4 (by decide) nw_RX6_277 f_Q_servedIn dX6_ofComer_104 ?_
              refine lv_iload_n hx hb dX6_ofComer_107 rfl (lv_at hl 1 rfl) ?_
              refine goI (rS (rest := []) S hK hP (ctX6_at l D cI cJ ad had 30 rfl a1 _ _ hF) (va_cwS 2 hts gX6_ofComer_X6_at rfl rfl rfl hdS_X6_at ⟨Nat.le_of_ble_eq_true rfl, Nat.le_of_ble_eq_true rfl⟩) rfl hl.1 rfl (Nat.le_of_ble_eq_true rfl) dX6_ofComer_108 ⟨Nat.zero_le _, Nat.zero_le _⟩) hS (fun _ h => h) (fun r_12 M_12 H locs hP hS hF => ?_)
              exact retI S hr hlocks hP hS hF dX6_ofComer_111
            · have hF := hF.2 c_11
              by_cases c_13 : a2 = 5
              · have hF := hF.1 c_13
                refine lv_tableIn (off := 98) (tgt := 112) hx hb dX6_ofComer_14 (by rw [c_13]; decide) (by rw [c_13]; decide) (by rw [c_13]; rfl) (by decide) ?_
                refine lv_aload_n hx hb dX6_ofComer_112 rfl (lv_at hl 0 rfl) ?_
                refine lv_iload_n hx hb dX6_ofComer_113 rfl (lv_at hl 1 rfl) ?_
                refine lv_iconst (v := 2) hx hb dX6_ofComer_114 (by decide) ?_
                refine goZ (rV (rest := []) S hK hP (ctX6_isKind l D cI cJ ad had a1 (2 : Int32) _ _ hF) (cwV 2 hts gX6_ofComer_X6_isKind rfl rfl rfl hdV_X6_isKind ⟨Nat.le_of_ble_eq_true rfl, Nat.le_of_ble_eq_true rfl⟩) e_R rfl rfl hl.1 rfl (Nat.le_of_ble_eq_true rfl) dX6_ofComer_115 ⟨Nat.zero_le _, Nat.zero_le _⟩) hS (fun _ h => h) (fun r_14 M_14 H locs hP hS hz_r_14 hF => ?_)
                refine lv_if_eq (tgt := 165) hx hb dX6_ofComer_118 (by decide) (fun c_15 => ?_) (fun c_15 => ?_)
                · have hF := hF.1 c_15
                  refine lv_iconst (v := 0) hx hb dX6_ofComer_165 (by decide) ?_
                  exact retI S hr hlocks hP hS hF dX6_ofComer_166
                · have hF := hF.2 c_15
                  refine lv_aload_n hx hb dX6_ofComer_121 rfl (lv_at hl 0 rfl) ?_
                  refine gF S hK hP i6 e_R rfl 2 (by decide) k30 f_R_here dX6_ofComer_122 ?_
                  refine gN S hK hP i2 e_P rfl 1 (by decide) nw_RX6_132 f_P_worths dX6_ofComer_125 ?_
                  refine lv_aload_n hx hb dX6_ofComer_128 rfl (lv_at hl 0 rfl) ?_
                  refine gF S hK hP i6 e_R rfl 5 (by decide) k51 f_R_queue dX6_ofComer_129 ?_
                  refine gN S hK hP i3 e_Q rfl 1 (by decide) nw_RX6_269 f_Q_sorts dX6_ofComer_132 ?_
                  refine lv_iload_n hx hb dX6_ofComer_135 rfl (lv_at hl 1 rfl) ?_
                  refine goI (rS (rest := [.ref (ad 14)]) S hK hP (ctX6_at l D cI cJ ad had 27 rfl a1 _ _ hF) (va_cwS 2 hts gX6_ofComer_X6_at rfl rfl rfl hdS_X6_at ⟨Nat.le_of_ble_eq_true rfl, Nat.le_of_ble_eq_true rfl⟩) rfl hl.1 rfl (Nat.le_of_ble_eq_true rfl) dX6_ofComer_136 ⟨Nat.zero_le _, Nat.zero_le _⟩) hS (fun _ h => h) (fun r_16 M_16 H locs hP hS hF => ?_)
                  refine goI (rS (rest := []) S hK hP (ctX6_at l D cI cJ ad had 14 rfl r_16 _ _ hF) (va_cwS 2 hts gX6_ofComer_X6_at rfl rfl rfl hdS_X6_at ⟨Nat.le_of_ble_eq_true rfl, Nat.le_of_ble_eq_true rfl⟩) rfl hl.1 rfl (Nat.le_of_ble_eq_true rfl) dX6_ofComer_139 ⟨Nat.zero_le _, Nat.zero_le _⟩) hS (fun _ h => h) (fun r_17 M_17 H locs hP hS hF => ?_)
                  refine lv_aload_n hx hb dX6_ofComer_142 rfl (lv_at hl 0 rfl) ?_
                  refine gF S hK hP i6 e_R rfl 2 (by decide) k30 f_R_here dX6_ofComer_143 ?_
                  refine gN S hK hP i2 e_P rfl 5 (by decide) nw_RX6_107 f_P_cost dX6_ofComer_146 ?_
                  refine lv_aload_n hx hb dX6_ofComer_149 rfl (lv_at hl 0 rfl) ?_
                  refine gF S hK hP i6 e_R rfl 5 (by decide) k51 f_R_queue dX6_ofComer_150 ?_
                  refine gN S hK hP i3 e_Q rfl 2 (by decide) nw_RX6_271 f_Q_waited dX6_ofComer_153 ?_
                  refine lv_iload_n hx hb dX6_ofComer_156 rfl (lv_at hl 1 rfl) ?_
                  refine goI (rS (rest := [.int (gi M_17 13), .int r_17]) S hK hP (ctX6_at l D cI cJ ad had 28 rfl a1 _ _ hF) (va_cwS 2 hts gX6_ofComer_X6_at rfl rfl rfl hdS_X6_at ⟨Nat.le_of_ble_eq_true rfl, Nat.le_of_ble_eq_true rfl⟩) rfl hl.1 rfl (Nat.le_of_ble_eq_true rfl) dX6_ofComer_157 ⟨Nat.zero_le _, Nat.zero_le _⟩) hS (fun _ h => h) (fun r_18 M_18 H locs hP hS hF => ?_)
                  refine lv_imul hx hb dX6_ofComer_160 ?_
                  refine lv_isub hx hb dX6_ofComer_161 ?_
                  refine lv_goto (tgt := 166) hx hb dX6_ofComer_162 (by decide) ?_
                  exact retI S hr hlocks hP hS hF dX6_ofComer_166
              · have hF := hF.2 c_13
                refine lv_tableOut (tgt := 167) hx hb dX6_ofComer_14 (by have q0 := lv_neT c_3 (k := 0) (a := 0) (by decide); have q1 := lv_neT c_5 (k := 1) (a := 1) (by decide); have q2 := lv_neT c_7 (k := 2) (a := 2) (by decide); have q3 := lv_neT c_9 (k := 3) (a := 3) (by decide); have q4 := lv_neT c_11 (k := 4) (a := 4) (by decide); have q5 := lv_neT c_13 (k := 5) (a := 5) (by decide); omega) (by decide) ?_
                refine lv_bipush (v := -2) hx hb dX6_ofComer_167 (by decide) ?_
                exact retI S hr hlocks hP hS hF dX6_ofComer_169
  · have hF := hF.1 c_2
    refine lv_iconst (v := -1) hx hb dX6_ofComer_11 (by decide) ?_
    exact retI S hr hlocks hP hS hF dX6_ofComer_12
def wX6_leave (a1 : Int32) (Q : Int32 → Mm → Prop) (M : Mm) : Prop := (wX3_has a1 (fun r_1 M_1 => ((r_1 = 0 → (Q (-1 : Int32) M_1)) ∧ (¬ r_1 = 0 → (wX3_placeOf a1 (fun r_3 M_3 => ((r_3 = (-9 : Int32) → (Q (-3 : Int32) M_3)) ∧ (¬ r_3 = (-9 : Int32) → (wX3_takeOut r_3 (fun M_5 => (wX6_set 26 a1 (0 : Int32) (fun M_6 => (Q (gi M_6 24) M_6)) M_5)) M_3)))) M_1)))) M)
set_option maxHeartbeats 4000000 in
set_option maxRecDepth 100000 in
theorem ctX6_leave (l : Launch) (D : va_G) (cI cJ : ClassId) (ad : Nat → Nat) (had : inj54 ad) (a1 : Int32) (Q : Int32 → Mm → Prop) (M : Mm) (hF : wX6_leave a1 Q M) : Met l yX6_leave wsX6_leave ({ frames := 2, cells := 0, slots := 0, locals := 44 } : Room) (PcW D cI cJ ad M [.ref (ad 0), .int a1]) (QiW D cI cJ ad Q) 0 0 (Fr ad) := by
  refine entW (y := yX6_leave) (ret := some .int) (maxL := 3) (plainFor_of_name (by decide)) rfl (Nat.le_of_ble_eq_true rfl) ?_
  intro p e s m args below meth c ls S hK hr hlocks hP hS hl
  have hx := S.1
  have hb := S.2.1
  have hown := S.2.2.2.1
  have hts := S.2.2.2.2
  have i6 : ∀ w ∈ wsX60, w ∈ wsX6_leave := by decide +kernel
  have i3 : ∀ w ∈ wsX30, w ∈ wsX6_leave := by decide +kernel
  have k51 := hts (.fieldLink RX6 51 "RopeLine" "queue" "LRopeLine$Queue;") (by decide +kernel)
  have hl : lv_has ls 3 [(0, .ref (ad 0)), (1, .int a1)] := hl
  unfold wX6_leave at hF
  refine lv_aload_n hx hb dX6_leave_0 rfl (lv_at hl 0 rfl) ?_
  refine gF S hK hP i6 e_R rfl 5 (by decide) k51 f_R_queue dX6_leave_1 ?_
  refine lv_iload_n hx hb dX6_leave_4 rfl (lv_at hl 1 rfl) ?_
  refine goZ (rV (rest := []) S hK hP (ctX3_has l D cI cJ ad had a1 _ _ hF) (cwV 1 hts gX6_leave_X3_has rfl rfl rfl hdV_X3_has ⟨Nat.le_of_ble_eq_true rfl, Nat.le_of_ble_eq_true rfl⟩) e_Q rfl rfl hl.1 rfl (Nat.le_of_ble_eq_true rfl) dX6_leave_5 ⟨Nat.zero_le _, Nat.zero_le _⟩) hS (fun _ h => h) (fun r_1 M_1 H locs hP hS hz_r_1 hF => ?_)
  refine lv_if_ne (tgt := 13) hx hb dX6_leave_8 (by decide) (fun c_2 => ?_) (fun c_2 => ?_)
  · have hF := hF.2 c_2
    refine lv_aload_n hx hb dX6_leave_13 rfl (lv_at hl 0 rfl) ?_
    refine gF S hK hP i6 e_R rfl 5 (by decide) k51 f_R_queue dX6_leave_14 ?_
    refine lv_iload_n hx hb dX6_leave_17 rfl (lv_at hl 1 rfl) ?_
    refine goI (rV (rest := []) S hK hP (ctX3_placeOf l D cI cJ ad had a1 _ _ hF) (cwV 1 hts gX6_leave_X3_placeOf rfl rfl rfl hdV_X3_placeOf ⟨Nat.le_of_ble_eq_true rfl, Nat.le_of_ble_eq_true rfl⟩) e_Q rfl rfl hl.1 rfl (Nat.le_of_ble_eq_true rfl) dX6_leave_18 ⟨Nat.zero_le _, Nat.zero_le _⟩) hS (fun _ h => h) (fun r_3 M_3 H locs hP hS hF => ?_)
    refine lv_istore_n (lv' := [(2, .int r_3), (0, .ref (ad 0)), (1, .int a1)]) hx hb dX6_leave_21 rfl hl (by decide) rfl (fun ls hl => ?_)
    refine lv_iload_n hx hb dX6_leave_22 rfl (lv_at hl 0 rfl) ?_
    refine lv_bipush (v := -9) hx hb dX6_leave_23 (by decide) ?_
    refine lv_icmp_ne (tgt := 31) hx hb dX6_leave_25 (by decide) (fun c_4 => ?_) (fun c_4 => ?_)
    · have hF := hF.2 c_4
      refine lv_aload_n hx hb dX6_leave_31 rfl (lv_at hl 1 rfl) ?_
      refine gF S hK hP i6 e_R rfl 5 (by decide) k51 f_R_queue dX6_leave_32 ?_
      refine lv_iload_n hx hb dX6_leave_35 rfl (lv_at hl 0 rfl) ?_
      refine goV (rV (rest := []) S hK hP (ctX3_takeOut l D cI cJ ad had r_3 _ _ hF) (cwV 1 hts gX6_leave_X3_takeOut rfl rfl rfl hdV_X3_takeOut ⟨Nat.le_of_ble_eq_true rfl, Nat.le_of_ble_eq_true rfl⟩) e_Q rfl rfl hl.1 rfl (Nat.le_of_ble_eq_true rfl) dX6_leave_36 ⟨Nat.zero_le _, Nat.zero_le _⟩) hS (fun _ h => h) (fun M_5 H locs hP hS hF => ?_)
      refine lv_aload_n hx hb dX6_leave_39 rfl (lv_at hl 1 rfl) ?_
      refine gF S hK hP i6 e_R rfl 5 (by decide) k51 f_R_queue dX6_leave_40 ?_
      refine gN S hK hP i3 e_Q rfl 0 (by decide) nw_RX6_266 f_Q_kinds dX6_leave_43 ?_
      refine lv_iload_n hx hb dX6_leave_46 rfl (lv_at hl 2 rfl) ?_
      refine lv_iconst (v := 0) hx hb dX6_leave_47 (by decide) ?_
      refine goV (rS (rest := []) S hK hP (ctX6_set l D cI cJ ad had 26 rfl a1 (0 : Int32) _ _ hF) (va_cwS 3 hts gX6_leave_X6_set rfl rfl rfl hdS_X6_set ⟨Nat.le_of_ble_eq_true rfl, Nat.le_of_ble_eq_true rfl⟩) rfl hl.1 rfl (Nat.le_of_ble_eq_true rfl) dX6_leave_48 ⟨Nat.zero_le _, Nat.zero_le _⟩) hS (fun _ h => h) (fun M_6 H locs hP hS hF => ?_)
      refine lv_aload_n hx hb dX6_leave_51 rfl (lv_at hl 1 rfl) ?_
      refine gF S hK hP i6 e_R rfl 5 (by decide) k51 f_R_queue dX6_leave_52 ?_
      refine gN S hK hP i3 e_Q rfl 7 (by decide) nw_RX6_249 f_Q_standing dX6_leave_55 ?_
      exact retI S hr hlocks hP hS hF dX6_leave_58
    · have hF := hF.1 c_4
      refine lv_bipush (v := -3) hx hb dX6_leave_28 (by decide) ?_
      exact retI S hr hlocks hP hS hF dX6_leave_30
  · have hF := hF.1 c_2
    refine lv_iconst (v := -1) hx hb dX6_leave_11 (by decide) ?_
    exact retI S hr hlocks hP hS hF dX6_leave_12
def wX6_line (a1 : Int32) (Q : Int32 → Mm → Prop) (M : Mm) : Prop := (wX6_isWithin a1 (-1 : Int32) (4 : Int32) (fun r_1 M_1 => ((r_1 = 0 → (Q (-1 : Int32) M_1)) ∧ (¬ r_1 = 0 → ((a1 = (-1 : Int32) → (Q (gi M_1 24) M_1)) ∧ (¬ a1 = (-1 : Int32) → (((gi M_1 24) ≤ a1 → (Q (-9 : Int32) M_1)) ∧ (¬ (gi M_1 24) ≤ a1 → (wX6_at 31 a1 (fun r_5 M_5 => (Q r_5 M_5)) M_1)))))))) M)
set_option maxHeartbeats 4000000 in
set_option maxRecDepth 100000 in
theorem ctX6_line (l : Launch) (D : va_G) (cI cJ : ClassId) (ad : Nat → Nat) (had : inj54 ad) (a1 : Int32) (Q : Int32 → Mm → Prop) (M : Mm) (hF : wX6_line a1 Q M) : Met l yX6_line wsX6_line ({ frames := 1, cells := 0, slots := 0, locals := 22 } : Room) (PcW D cI cJ ad M [.ref (ad 0), .int a1]) (QiW D cI cJ ad Q) 0 0 (Fr ad) := by
  refine entW (y := yX6_line) (ret := some .int) (maxL := 2) (plainFor_of_name (by decide)) rfl (Nat.le_of_ble_eq_true rfl) ?_
  intro p e s m args below meth c ls S hK hr hlocks hP hS hl
  have hx := S.1
  have hb := S.2.1
  have hown := S.2.2.2.1
  have hts := S.2.2.2.2
  have i6 : ∀ w ∈ wsX60, w ∈ wsX6_line := by decide +kernel
  have i3 : ∀ w ∈ wsX30, w ∈ wsX6_line := by decide +kernel
  have k51 := hts (.fieldLink RX6 51 "RopeLine" "queue" "LRopeLine$Queue;") (by decide +kernel)
  have hl : lv_has ls 2 [(0, .ref (ad 0)), (1, .int a1)] := hl
  unfold wX6_line at hF
  refine lv_iload_n hx hb dX6_line_0 rfl (lv_at hl 1 rfl) ?_
  refine lv_iconst (v := -1) hx hb dX6_line_1 (by decide) ?_
  refine lv_iconst (v := 4) hx hb dX6_line_2 (by decide) ?_
  refine goZ (rS (rest := []) S hK hP (ctX6_isWithin l D cI cJ ad had a1 (-1 : Int32) (4 : Int32) _ _ hF) (va_cwS 3 hts gX6_line_X6_isWithin rfl rfl rfl hdS_X6_isWithin ⟨Nat.le_of_ble_eq_true rfl, Nat.le_of_ble_eq_true rfl⟩) rfl hl.1 rfl (Nat.le_of_ble_eq_true rfl) dX6_line_3 ⟨Nat.zero_le _, Nat.zero_le _⟩) hS (fun _ h => h) (fun r_1 M_1 H locs hP hS hz_r_1 hF => ?_)
  refine lv_if_ne (tgt := 11) hx hb dX6_line_6 (by decide) (fun c_2 => ?_) (fun c_2 => ?_)
  · have hF := hF.2 c_2
    refine lv_iload_n hx hb dX6_line_11 rfl (lv_at hl 1 rfl) ?_
    refine lv_iconst (v := -1) hx hb dX6_line_12 (by decide) ?_
    refine lv_icmp_ne (tgt := 24) hx hb dX6_line_13 (by decide) (fun c_3 => ?_) (fun c_3 => ?_)
    · have hF := hF.2 c_3
      refine lv_iload_n hx hb dX6_line_24 rfl (lv_at hl 1 rfl) ?_
      refine lv_aload_n hx hb dX6_line_25 rfl (lv_at hl 0 rfl) ?_
      refine gF S hK hP i6 e_R rfl 5 (by decide) k51 f_R_queue dX6_line_26 ?_
      refine gN S hK hP i3 e_Q rfl 7 (by decide) nw_RX6_249 f_Q_standing dX6_line_29 ?_
      refine lv_icmp_ge (tgt := 49) hx hb dX6_line_32 (by decide) (fun c_4 => ?_) (fun c_4 => ?_)
      · have hF := hF.1 c_4
        refine lv_bipush (v := -9) hx hb dX6_line_49 (by decide) ?_
        exact retI S hr hlocks hP hS hF dX6_line_51
      · have hF := hF.2 c_4
        refine lv_aload_n hx hb dX6_line_35 rfl (lv_at hl 0 rfl) ?_
        refine gF S hK hP i6 e_R rfl 5 (by decide) k51 f_R_queue dX6_line_36 ?_
        refine gN S hK hP i3 e_Q rfl 5 (by decide) nw_RX6_290 f_Q_row dX6_line_39 ?_
        refine lv_iload_n hx hb dX6_line_42 rfl (lv_at hl 1 rfl) ?_
        refine goI (rS (rest := []) S hK hP (ctX6_at l D cI cJ ad had 31 rfl a1 _ _ hF) (va_cwS 2 hts gX6_line_X6_at rfl rfl rfl hdS_X6_at ⟨Nat.le_of_ble_eq_true rfl, Nat.le_of_ble_eq_true rfl⟩) rfl hl.1 rfl (Nat.le_of_ble_eq_true rfl) dX6_line_43 ⟨Nat.zero_le _, Nat.zero_le _⟩) hS (fun _ h => h) (fun r_5 M_5 H locs hP hS hF => ?_)
        refine lv_goto (tgt := 51) hx hb dX6_line_46 (by decide) ?_
        exact retI S hr hlocks hP hS hF dX6_line_51
    · have hF := hF.1 c_3
      refine lv_aload_n hx hb dX6_line_16 rfl (lv_at hl 0 rfl) ?_
      refine gF S hK hP i6 e_R rfl 5 (by decide) k51 f_R_queue dX6_line_17 ?_
      refine gN S hK hP i3 e_Q rfl 7 (by decide) nw_RX6_249 f_Q_standing dX6_line_20 ?_
      exact retI S hr hlocks hP hS hF dX6_line_23
  · have hF := hF.1 c_2
    refine lv_iconst (v := -1) hx hb dX6_line_9 (by decide) ?_
    exact retI S hr hlocks hP hS hF dX6_line_10
def wX6_envy (Q : Int32 → Mm → Prop) (M : Mm) : Prop := (wX3_envious (fun r_1 M_1 => (Q r_1 M_1)) M)
set_option maxHeartbeats 4000000 in
set_option maxRecDepth 100000 in
theorem ctX6_envy (l : Launch) (D : va_G) (cI cJ : ClassId) (ad : Nat → Nat) (had : inj54 ad)  (Q : Int32 → Mm → Prop) (M : Mm) (hF : wX6_envy Q M) : Met l yX6_envy wsX6_envy ({ frames := 3, cells := 0, slots := 0, locals := 66 } : Room) (PcW D cI cJ ad M [.ref (ad 0)]) (QiW D cI cJ ad Q) 0 0 (Fr ad) := by
  refine entW (y := yX6_envy) (ret := some .int) (maxL := 1) (plainFor_of_name (by decide)) rfl (Nat.le_of_ble_eq_true rfl) ?_
  intro p e s m args below meth c ls S hK hr hlocks hP hS hl
  have hx := S.1
  have hb := S.2.1
  have hown := S.2.2.2.1
  have hts := S.2.2.2.2
  have i6 : ∀ w ∈ wsX60, w ∈ wsX6_envy := by decide +kernel
  have k51 := hts (.fieldLink RX6 51 "RopeLine" "queue" "LRopeLine$Queue;") (by decide +kernel)
  have hl : lv_has ls 1 [(0, .ref (ad 0))] := hl
  unfold wX6_envy at hF
  refine lv_aload_n hx hb dX6_envy_0 rfl (lv_at hl 0 rfl) ?_
  refine gF S hK hP i6 e_R rfl 5 (by decide) k51 f_R_queue dX6_envy_1 ?_
  refine goI (rV (rest := []) S hK hP (ctX3_envious l D cI cJ ad had  _ _ hF) (cwV 0 hts gX6_envy_X3_envious rfl rfl rfl hdV_X3_envious ⟨Nat.le_of_ble_eq_true rfl, Nat.le_of_ble_eq_true rfl⟩) e_Q rfl rfl hl.1 rfl (Nat.le_of_ble_eq_true rfl) dX6_envy_4 ⟨Nat.zero_le _, Nat.zero_le _⟩) hS (fun _ h => h) (fun r_1 M_1 H locs hP hS hF => ?_)
  exact retI S hr hlocks hP hS hF dX6_envy_7
def wX6_sheet (a1 : Int32) (a2 : Int32) (a3 : Int32) (Q : Int32 → Mm → Prop) (M : Mm) : Prop := (∀ M_1 : Mm, M_1 = (si M 2 (0 : Int32)) → (wX4_has a1 (fun r_2 M_2 => ((r_2 = 0 → (Q (-1 : Int32) M_2)) ∧ (¬ r_2 = 0 → (wX6_isWithin a2 (0 : Int32) (2 : Int32) (fun r_4 M_4 => ((r_4 = 0 → (Q (-2 : Int32) M_4)) ∧ (¬ r_4 = 0 → ((a3 ≤ (60 : Int32) → ((0 ≤ a3 → (wX4_renew a1 a2 a3 (fun M_8 => (Q (1 : Int32) M_8)) M_4)) ∧ (¬ 0 ≤ a3 → (wX6_faulted (4 : Int32) (fun r_9 M_9 => (Q r_9 M_9)) M_4)))) ∧ (¬ a3 ≤ (60 : Int32) → (Q (-2 : Int32) M_4)))))) M_2)))) M_1))
set_option maxHeartbeats 4000000 in
set_option maxRecDepth 100000 in
theorem ctX6_sheet (l : Launch) (D : va_G) (cI cJ : ClassId) (ad : Nat → Nat) (had : inj54 ad) (a1 : Int32) (a2 : Int32) (a3 : Int32) (Q : Int32 → Mm → Prop) (M : Mm) (hF : wX6_sheet a1 a2 a3 Q M) : Met l yX6_sheet wsX6_sheet ({ frames := 2, cells := 0, slots := 0, locals := 46 } : Room) (PcW D cI cJ ad M [.ref (ad 0), .int a1, .int a2, .int a3]) (QiW D cI cJ ad Q) 0 0 (Fr ad) := by
  refine entW (y := yX6_sheet) (ret := some .int) (maxL := 4) (plainFor_of_name (by decide)) rfl (Nat.le_of_ble_eq_true rfl) ?_
  intro p e s m args below meth c ls S hK hr hlocks hP hS hl
  have hx := S.1
  have hb := S.2.1
  have hown := S.2.2.2.1
  have hts := S.2.2.2.2
  have i6 : ∀ w ∈ wsX60, w ∈ wsX6_sheet := by decide +kernel
  have k55 := hts (.fieldLink RX6 55 "RopeLine" "faultNow" "I") (by decide +kernel)
  have k12 := hts (.fieldLink RX6 12 "RopeLine" "sheets" "LRopeLine$Sheets;") (by decide +kernel)
  have hl : lv_has ls 4 [(0, .ref (ad 0)), (1, .int a1), (2, .int a2), (3, .int a3)] := hl
  unfold wX6_sheet at hF
  refine lv_aload_n hx hb dX6_sheet_0 rfl (lv_at hl 0 rfl) ?_
  refine lv_iconst (v := 0) hx hb dX6_sheet_1 (by decide) ?_
  refine pF S hK had hP hS i6 tyX6_ok nmX6 e_R rfl 8 (by decide) k55 rfl rfl rfl (Nat.lt_of_lt_of_eq (by decide) len_R.symm) s_R_faultNow dX6_sheet_2 (fun M_1 H locs eM_1 hP hS => ?_)
  have hF := hF M_1 eM_1
  refine lv_aload_n hx hb dX6_sheet_5 rfl (lv_at hl 0 rfl) ?_
  refine gF S hK hP i6 e_R rfl 0 (by decide) k12 f_R_sheets dX6_sheet_6 ?_
  refine lv_iload_n hx hb dX6_sheet_9 rfl (lv_at hl 1 rfl) ?_
  refine goZ (rV (rest := []) S hK hP (ctX4_has l D cI cJ ad had a1 _ _ hF) (cwV 1 hts gX6_sheet_X4_has rfl rfl rfl hdV_X4_has ⟨Nat.le_of_ble_eq_true rfl, Nat.le_of_ble_eq_true rfl⟩) e_S rfl rfl hl.1 rfl (Nat.le_of_ble_eq_true rfl) dX6_sheet_10 ⟨Nat.zero_le _, Nat.zero_le _⟩) hS (fun _ h => h) (fun r_2 M_2 H locs hP hS hz_r_2 hF => ?_)
  refine lv_if_ne (tgt := 18) hx hb dX6_sheet_13 (by decide) (fun c_3 => ?_) (fun c_3 => ?_)
  · have hF := hF.2 c_3
    refine lv_iload_n hx hb dX6_sheet_18 rfl (lv_at hl 2 rfl) ?_
    refine lv_iconst (v := 0) hx hb dX6_sheet_19 (by decide) ?_
    refine lv_iconst (v := 2) hx hb dX6_sheet_20 (by decide) ?_
    refine goZ (rS (rest := []) S hK hP (ctX6_isWithin l D cI cJ ad had a2 (0 : Int32) (2 : Int32) _ _ hF) (va_cwS 3 hts gX6_sheet_X6_isWithin rfl rfl rfl hdS_X6_isWithin ⟨Nat.le_of_ble_eq_true rfl, Nat.le_of_ble_eq_true rfl⟩) rfl hl.1 rfl (Nat.le_of_ble_eq_true rfl) dX6_sheet_21 ⟨Nat.zero_le _, Nat.zero_le _⟩) hS (fun _ h => h) (fun r_4 M_4 H locs hP hS hz_r_4 hF => ?_)
    refine lv_if_eq (tgt := 33) hx hb dX6_sheet_24 (by decide) (fun c_5 => ?_) (fun c_5 => ?_)
    · have hF := hF.1 c_5
      refine lv_bipush (v := -2) hx hb dX6_sheet_33 (by decide) ?_
      exact retI S hr hlocks hP hS hF dX6_sheet_35
    · have hF := hF.2 c_5
      refine lv_iload_n hx hb dX6_sheet_27 rfl (lv_at hl 3 rfl) ?_
      refine lv_bipush (v := 60) hx hb dX6_sheet_28 (by decide) ?_
      refine lv_icmp_le (tgt := 36) hx hb dX6_sheet_30 (by decide) (fun c_6 => ?_) (fun c_6 => ?_)
      · have hF := hF.1 c_6
        refine lv_iload_n hx hb dX6_sheet_36 rfl (lv_at hl 3 rfl) ?_
        refine lv_if_ge (tgt := 46) hx hb dX6_sheet_37 (by decide) (fun c_7 => ?_) (fun c_7 => ?_)
        · have hF := hF.1 c_7
          refine lv_aload_n hx hb dX6_sheet_46 rfl (lv_at hl 0 rfl) ?_
          refine gF S hK hP i6 e_R rfl 0 (by decide) k12 f_R_sheets dX6_sheet_47 ?_
          refine lv_iload_n hx hb dX6_sheet_50 rfl (lv_at hl 1 rfl) ?_
          refine lv_iload_n hx hb dX6_sheet_51 rfl (lv_at hl 2 rfl) ?_
          refine lv_iload_n hx hb dX6_sheet_52 rfl (lv_at hl 3 rfl) ?_
          refine goV (rV (rest := []) S hK hP (ctX4_renew l D cI cJ ad had a1 a2 a3 _ _ hF) (cwV 3 hts gX6_sheet_X4_renew rfl rfl rfl hdV_X4_renew ⟨Nat.le_of_ble_eq_true rfl, Nat.le_of_ble_eq_true rfl⟩) e_S rfl rfl hl.1 rfl (Nat.le_of_ble_eq_true rfl) dX6_sheet_53 ⟨Nat.zero_le _, Nat.zero_le _⟩) hS (fun _ h => h) (fun M_8 H locs hP hS hF => ?_)
          refine lv_iconst (v := 1) hx hb dX6_sheet_56 (by decide) ?_
          exact retI S hr hlocks hP hS hF dX6_sheet_57
        · have hF := hF.2 c_7
          refine lv_aload_n hx hb dX6_sheet_40 rfl (lv_at hl 0 rfl) ?_
          refine lv_iconst (v := 4) hx hb dX6_sheet_41 (by decide) ?_
          refine goI (rV (rest := []) S hK hP (ctX6_faulted l D cI cJ ad had (4 : Int32) _ _ hF) (cwV 1 hts gX6_sheet_X6_faulted rfl rfl rfl hdV_X6_faulted ⟨Nat.le_of_ble_eq_true rfl, Nat.le_of_ble_eq_true rfl⟩) e_R rfl rfl hl.1 rfl (Nat.le_of_ble_eq_true rfl) dX6_sheet_42 ⟨Nat.zero_le _, Nat.zero_le _⟩) hS (fun _ h => h) (fun r_9 M_9 H locs hP hS hF => ?_)
          exact retI S hr hlocks hP hS hF dX6_sheet_45
      · have hF := hF.2 c_6
        refine lv_bipush (v := -2) hx hb dX6_sheet_33 (by decide) ?_
        exact retI S hr hlocks hP hS hF dX6_sheet_35
  · have hF := hF.1 c_3
    refine lv_iconst (v := -1) hx hb dX6_sheet_16 (by decide) ?_
    exact retI S hr hlocks hP hS hF dX6_sheet_17
def wX6_lose (a1 : Int32) (Q : Int32 → Mm → Prop) (M : Mm) : Prop := (wX4_has a1 (fun r_1 M_1 => ((r_1 = 0 → (Q (-1 : Int32) M_1)) ∧ (¬ r_1 = 0 → (wX4_hasNothing a1 (fun r_3 M_3 => ((r_3 = 0 → (wX4_forget a1 (fun M_5 => (Q (1 : Int32) M_5)) M_3)) ∧ (¬ r_3 = 0 → (Q (0 : Int32) M_3)))) M_1)))) M)
set_option maxHeartbeats 4000000 in
set_option maxRecDepth 100000 in
theorem ctX6_lose (l : Launch) (D : va_G) (cI cJ : ClassId) (ad : Nat → Nat) (had : inj54 ad) (a1 : Int32) (Q : Int32 → Mm → Prop) (M : Mm) (hF : wX6_lose a1 Q M) : Met l yX6_lose wsX6_lose ({ frames := 2, cells := 0, slots := 0, locals := 43 } : Room) (PcW D cI cJ ad M [.ref (ad 0), .int a1]) (QiW D cI cJ ad Q) 0 0 (Fr ad) := by
  refine entW (y := yX6_lose) (ret := some .int) (maxL := 2) (plainFor_of_name (by decide)) rfl (Nat.le_of_ble_eq_true rfl) ?_
  intro p e s m args below meth c ls S hK hr hlocks hP hS hl
  have hx := S.1
  have hb := S.2.1
  have hown := S.2.2.2.1
  have hts := S.2.2.2.2
  have i6 : ∀ w ∈ wsX60, w ∈ wsX6_lose := by decide +kernel
  have k12 := hts (.fieldLink RX6 12 "RopeLine" "sheets" "LRopeLine$Sheets;") (by decide +kernel)
  have hl : lv_has ls 2 [(0, .ref (ad 0)), (1, .int a1)] := hl
  unfold wX6_lose at hF
  refine lv_aload_n hx hb dX6_lose_0 rfl (lv_at hl 0 rfl) ?_
  refine gF S hK hP i6 e_R rfl 0 (by decide) k12 f_R_sheets dX6_lose_1 ?_
  refine lv_iload_n hx hb dX6_lose_4 rfl (lv_at hl 1 rfl) ?_
  refine goZ (rV (rest := []) S hK hP (ctX4_has l D cI cJ ad had a1 _ _ hF) (cwV 1 hts gX6_lose_X4_has rfl rfl rfl hdV_X4_has ⟨Nat.le_of_ble_eq_true rfl, Nat.le_of_ble_eq_true rfl⟩) e_S rfl rfl hl.1 rfl (Nat.le_of_ble_eq_true rfl) dX6_lose_5 ⟨Nat.zero_le _, Nat.zero_le _⟩) hS (fun _ h => h) (fun r_1 M_1 H locs hP hS hz_r_1 hF => ?_)
  refine lv_if_ne (tgt := 13) hx hb dX6_lose_8 (by decide) (fun c_2 => ?_) (fun c_2 => ?_)
  · have hF := hF.2 c_2
    refine lv_aload_n hx hb dX6_lose_13 rfl (lv_at hl 0 rfl) ?_
    refine gF S hK hP i6 e_R rfl 0 (by decide) k12 f_R_sheets dX6_lose_14 ?_
    refine lv_iload_n hx hb dX6_lose_17 rfl (lv_at hl 1 rfl) ?_
    refine goZ (rV (rest := []) S hK hP (ctX4_hasNothing l D cI cJ ad had a1 _ _ hF) (cwV 1 hts gX6_lose_X4_hasNothing rfl rfl rfl hdV_X4_hasNothing ⟨Nat.le_of_ble_eq_true rfl, Nat.le_of_ble_eq_true rfl⟩) e_S rfl rfl hl.1 rfl (Nat.le_of_ble_eq_true rfl) dX6_lose_18 ⟨Nat.zero_le _, Nat.zero_le _⟩) hS (fun _ h => h) (fun r_3 M_3 H locs hP hS hz_r_3 hF => ?_)
    refine lv_if_eq (tgt := 26) hx hb dX6_lose_21 (by decide) (fun c_4 => ?_) (fun c_4 => ?_)
    · have hF := hF.1 c_4
      refine lv_aload_n hx hb dX6_lose_26 rfl (lv_at hl 0 rfl) ?_
      refine gF S hK hP i6 e_R rfl 0 (by decide) k12 f_R_sheets dX6_lose_27 ?_
      refine lv_iload_n hx hb dX6_lose_30 rfl (lv_at hl 1 rfl) ?_
      refine goV (rV (rest := []) S hK hP (ctX4_forget l D cI cJ ad had a1 _ _ hF) (cwV 1 hts gX6_lose_X4_forget rfl rfl rfl hdV_X4_forget ⟨Nat.le_of_ble_eq_true rfl, Nat.le_of_ble_eq_true rfl⟩) e_S rfl rfl hl.1 rfl (Nat.le_of_ble_eq_true rfl) dX6_lose_31 ⟨Nat.zero_le _, Nat.zero_le _⟩) hS (fun _ h => h) (fun M_5 H locs hP hS hF => ?_)
      refine lv_iconst (v := 1) hx hb dX6_lose_34 (by decide) ?_
      exact retI S hr hlocks hP hS hF dX6_lose_35
    · have hF := hF.2 c_4
      refine lv_iconst (v := 0) hx hb dX6_lose_24 (by decide) ?_
      exact retI S hr hlocks hP hS hF dX6_lose_25
  · have hF := hF.1 c_2
    refine lv_iconst (v := -1) hx hb dX6_lose_11 (by decide) ?_
    exact retI S hr hlocks hP hS hF dX6_lose_12
def wX6_put (a1 : Int32) (a2 : Int32) (a3 : Int32) (Q : Int32 → Mm → Prop) (M : Mm) : Prop := (∀ M_1 : Mm, M_1 = (si M 2 (0 : Int32)) → (wX4_has a1 (fun r_2 M_2 => ((r_2 = 0 → (Q (-1 : Int32) M_2)) ∧ (¬ r_2 = 0 → (wX4_hasNothing a1 (fun r_4 M_4 => ((r_4 = 0 → (wX4_sizeOf a1 (fun r_6 M_6 => (wX6_isWithin a2 (0 : Int32) (r_6 - (1 : Int32)) (fun r_7 M_7 => ((r_7 = 0 → (wX6_faulted (3 : Int32) (fun r_10 M_10 => (Q r_10 M_10)) M_7)) ∧ (¬ r_7 = 0 → (wX4_write a1 a2 a3 (fun M_9 => (Q (1 : Int32) M_9)) M_7)))) M_6)) M_4)) ∧ (¬ r_4 = 0 → (wX6_faulted (1 : Int32) (fun r_11 M_11 => (Q r_11 M_11)) M_4)))) M_2)))) M_1))
set_option maxHeartbeats 4000000 in
set_option maxRecDepth 100000 in
theorem ctX6_put (l : Launch) (D : va_G) (cI cJ : ClassId) (ad : Nat → Nat) (had : inj54 ad) (a1 : Int32) (a2 : Int32) (a3 : Int32) (Q : Int32 → Mm → Prop) (M : Mm) (hF : wX6_put a1 a2 a3 Q M) : Met l yX6_put wsX6_put ({ frames := 2, cells := 0, slots := 0, locals := 46 } : Room) (PcW D cI cJ ad M [.ref (ad 0), .int a1, .int a2, .int a3]) (QiW D cI cJ ad Q) 0 0 (Fr ad) := by
  refine entW (y := yX6_put) (ret := some .int) (maxL := 4) (plainFor_of_name (by decide)) rfl (Nat.le_of_ble_eq_true rfl) ?_
  intro p e s m args below meth c ls S hK hr hlocks hP hS hl
  have hx := S.1
  have hb := S.2.1
  have hown := S.2.2.2.1
  have hts := S.2.2.2.2
  have i6 : ∀ w ∈ wsX60, w ∈ wsX6_put := by decide +kernel
  have k55 := hts (.fieldLink RX6 55 "RopeLine" "faultNow" "I") (by decide +kernel)
  have k12 := hts (.fieldLink RX6 12 "RopeLine" "sheets" "LRopeLine$Sheets;") (by decide +kernel)
  have hl : lv_has ls 4 [(0, .ref (ad 0)), (1, .int a1), (2, .int a2), (3, .int a3)] := hl
  unfold wX6_put at hF
  refine lv_aload_n hx hb dX6_put_0 rfl (lv_at hl 0 rfl) ?_
  refine lv_iconst (v := 0) hx hb dX6_put_1 (by decide) ?_
  refine pF S hK had hP hS i6 tyX6_ok nmX6 e_R rfl 8 (by decide) k55 rfl rfl rfl (Nat.lt_of_lt_of_eq (by decide) len_R.symm) s_R_faultNow dX6_put_2 (fun M_1 H locs eM_1 hP hS => ?_)
  have hF := hF M_1 eM_1
  refine lv_aload_n hx hb dX6_put_5 rfl (lv_at hl 0 rfl) ?_
  refine gF S hK hP i6 e_R rfl 0 (by decide) k12 f_R_sheets dX6_put_6 ?_
  refine lv_iload_n hx hb dX6_put_9 rfl (lv_at hl 1 rfl) ?_
  refine goZ (rV (rest := []) S hK hP (ctX4_has l D cI cJ ad had a1 _ _ hF) (cwV 1 hts gX6_put_X4_has rfl rfl rfl hdV_X4_has ⟨Nat.le_of_ble_eq_true rfl, Nat.le_of_ble_eq_true rfl⟩) e_S rfl rfl hl.1 rfl (Nat.le_of_ble_eq_true rfl) dX6_put_10 ⟨Nat.zero_le _, Nat.zero_le _⟩) hS (fun _ h => h) (fun r_2 M_2 H locs hP hS hz_r_2 hF => ?_)
  refine lv_if_ne (tgt := 18) hx hb dX6_put_13 (by decide) (fun c_3 => ?_) (fun c_3 => ?_)
  · have hF := hF.2 c_3
    refine lv_aload_n hx hb dX6_put_18 rfl (lv_at hl 0 rfl) ?_
    refine gF S hK hP i6 e_R rfl 0 (by decide) k12 f_R_sheets dX6_put_19 ?_
    refine lv_iload_n hx hb dX6_put_22 rfl (lv_at hl 1 rfl) ?_
    refine goZ (rV (rest := []) S hK hP (ctX4_hasNothing l D cI cJ ad had a1 _ _ hF) (cwV 1 hts gX6_put_X4_hasNothing rfl rfl rfl hdV_X4_hasNothing ⟨Nat.le_of_ble_eq_true rfl, Nat.le_of_ble_eq_true rfl⟩) e_S rfl rfl hl.1 rfl (Nat.le_of_ble_eq_true rfl) dX6_put_23 ⟨Nat.zero_le _, Nat.zero_le _⟩) hS (fun _ h => h) (fun r_4 M_4 H locs hP hS hz_r_4 hF => ?_)
    refine lv_if_eq (tgt := 35) hx hb dX6_put_26 (by decide) (fun c_5 => ?_) (fun c_5 => ?_)
    · have hF := hF.1 c_5
      refine lv_iload_n hx hb dX6_put_35 rfl (lv_at hl 2 rfl) ?_
      refine lv_iconst (v := 0) hx hb dX6_put_36 (by decide) ?_
      refine lv_aload_n hx hb dX6_put_37 rfl (lv_at hl 0 rfl) ?_
      refine gF S hK hP i6 e_R rfl 0 (by decide) k12 f_R_sheets dX6_put_38 ?_
      refine lv_iload_n hx hb dX6_put_41 rfl (lv_at hl 1 rfl) ?_
      refine goI (rV (rest := [.int (0 : Int32), .int a2]) S hK hP (ctX4_sizeOf l D cI cJ ad had a1 _ _ hF) (cwV 1 hts gX6_put_X4_sizeOf rfl rfl rfl hdV_X4_sizeOf ⟨Nat.le_of_ble_eq_true rfl, Nat.le_of_ble_eq_true rfl⟩) e_S rfl rfl hl.1 rfl (Nat.le_of_ble_eq_true rfl) dX6_put_42 ⟨Nat.zero_le _, Nat.zero_le _⟩) hS (fun _ h => h) (fun r_6 M_6 H locs hP hS hF => ?_)
      refine lv_iconst (v := 1) hx hb dX6_put_45 (by decide) ?_
      refine lv_isub hx hb dX6_put_46 ?_
      refine goZ (rS (rest := []) S hK hP (ctX6_isWithin l D cI cJ ad had a2 (0 : Int32) (r_6 - (1 : Int32)) _ _ hF) (va_cwS 3 hts gX6_put_X6_isWithin rfl rfl rfl hdS_X6_isWithin ⟨Nat.le_of_ble_eq_true rfl, Nat.le_of_ble_eq_true rfl⟩) rfl hl.1 rfl (Nat.le_of_ble_eq_true rfl) dX6_put_47 ⟨Nat.zero_le _, Nat.zero_le _⟩) hS (fun _ h => h) (fun r_7 M_7 H locs hP hS hz_r_7 hF => ?_)
      refine lv_if_ne (tgt := 59) hx hb dX6_put_50 (by decide) (fun c_8 => ?_) (fun c_8 => ?_)
      · have hF := hF.2 c_8
        refine lv_aload_n hx hb dX6_put_59 rfl (lv_at hl 0 rfl) ?_
        refine gF S hK hP i6 e_R rfl 0 (by decide) k12 f_R_sheets dX6_put_60 ?_
        refine lv_iload_n hx hb dX6_put_63 rfl (lv_at hl 1 rfl) ?_
        refine lv_iload_n hx hb dX6_put_64 rfl (lv_at hl 2 rfl) ?_
        refine lv_iload_n hx hb dX6_put_65 rfl (lv_at hl 3 rfl) ?_
        refine goV (rV (rest := []) S hK hP (ctX4_write l D cI cJ ad had a1 a2 a3 _ _ hF) (cwV 3 hts gX6_put_X4_write rfl rfl rfl hdV_X4_write ⟨Nat.le_of_ble_eq_true rfl, Nat.le_of_ble_eq_true rfl⟩) e_S rfl rfl hl.1 rfl (Nat.le_of_ble_eq_true rfl) dX6_put_66 ⟨Nat.zero_le _, Nat.zero_le _⟩) hS (fun _ h => h) (fun M_9 H locs hP hS hF => ?_)
        refine lv_iconst (v := 1) hx hb dX6_put_69 (by decide) ?_
        exact retI S hr hlocks hP hS hF dX6_put_70
      · have hF := hF.1 c_8
        refine lv_aload_n hx hb dX6_put_53 rfl (lv_at hl 0 rfl) ?_
        refine lv_iconst (v := 3) hx hb dX6_put_54 (by decide) ?_
        refine goI (rV (rest := []) S hK hP (ctX6_faulted l D cI cJ ad had (3 : Int32) _ _ hF) (cwV 1 hts gX6_put_X6_faulted rfl rfl rfl hdV_X6_faulted ⟨Nat.le_of_ble_eq_true rfl, Nat.le_of_ble_eq_true rfl⟩) e_R rfl rfl hl.1 rfl (Nat.le_of_ble_eq_true rfl) dX6_put_55 ⟨Nat.zero_le _, Nat.zero_le _⟩) hS (fun _ h => h) (fun r_10 M_10 H locs hP hS hF => ?_)
        exact retI S hr hlocks hP hS hF dX6_put_58
    · have hF := hF.2 c_5
      refine lv_aload_n hx hb dX6_put_29 rfl (lv_at hl 0 rfl) ?_
      refine lv_iconst (v := 1) hx hb dX6_put_30 (by decide) ?_
      refine goI (rV (rest := []) S hK hP (ctX6_faulted l D cI cJ ad had (1 : Int32) _ _ hF) (cwV 1 hts gX6_put_X6_faulted rfl rfl rfl hdV_X6_faulted ⟨Nat.le_of_ble_eq_true rfl, Nat.le_of_ble_eq_true rfl⟩) e_R rfl rfl hl.1 rfl (Nat.le_of_ble_eq_true rfl) dX6_put_31 ⟨Nat.zero_le _, Nat.zero_le _⟩) hS (fun _ h => h) (fun r_11 M_11 H locs hP hS hF => ?_)
      exact retI S hr hlocks hP hS hF dX6_put_34
  · have hF := hF.1 c_3
    refine lv_iconst (v := -1) hx hb dX6_put_16 (by decide) ?_
    exact retI S hr hlocks hP hS hF dX6_put_17
def wX6_lost (a1 : Int32) (Q : Int64 → Mm → Prop) (M : Mm) : Prop := (∀ M_1 : Mm, M_1 = (si M 2 a1) → (Q (-9223372036854775808 : Int64) M_1))
set_option maxHeartbeats 4000000 in
set_option maxRecDepth 100000 in
theorem ctX6_lost (l : Launch) (D : va_G) (cI cJ : ClassId) (ad : Nat → Nat) (had : inj54 ad) (a1 : Int32) (Q : Int64 → Mm → Prop) (M : Mm) (hF : wX6_lost a1 Q M) : Met l yX6_lost wsX6_lost ({ frames := 0, cells := 0, slots := 0, locals := 0 } : Room) (PcW D cI cJ ad M [.ref (ad 0), .int a1]) (QlW D cI cJ ad Q) 0 0 (Fr ad) := by
  refine entW (y := yX6_lost) (ret := some .long) (maxL := 2) (plainFor_of_name (by decide)) rfl (Nat.le_of_ble_eq_true rfl) ?_
  intro p e s m args below meth c ls S hK hr hlocks hP hS hl
  have hx := S.1
  have hb := S.2.1
  have hown := S.2.2.2.1
  have hts := S.2.2.2.2
  have i6 : ∀ w ∈ wsX60, w ∈ wsX6_lost := by decide +kernel
  have k55 := hts (.fieldLink RX6 55 "RopeLine" "faultNow" "I") (by decide +kernel)
  have hl : lv_has ls 2 [(0, .ref (ad 0)), (1, .int a1)] := hl
  unfold wX6_lost at hF
  refine lv_aload_n hx hb dX6_lost_0 rfl (lv_at hl 0 rfl) ?_
  refine lv_iload_n hx hb dX6_lost_1 rfl (lv_at hl 1 rfl) ?_
  refine pF S hK had hP hS i6 tyX6_ok nmX6 e_R rfl 8 (by decide) k55 rfl rfl rfl (Nat.lt_of_lt_of_eq (by decide) len_R.symm) s_R_faultNow dX6_lost_2 (fun M_1 H locs eM_1 hP hS => ?_)
  have hF := hF M_1 eM_1
  refine lv_ldc2 (v := -9223372036854775808) hx hb hown (hts (.constantLong RX6 156 (-9223372036854775808)) (by decide +kernel)) dX6_lost_5 ?_
  exact retL S hr hlocks hP hS hF dX6_lost_8
def wX6_cell (a1 : Int32) (a2 : Int32) (a3 : Int32) (Q : Int64 → Mm → Prop) (M : Mm) : Prop := (∀ M_1 : Mm, M_1 = (si M 2 (0 : Int32)) → (wX4_has a1 (fun r_2 M_2 => ((r_2 = 0 → (Q (-9223372036854775808 : Int64) M_2)) ∧ (¬ r_2 = 0 → (wX6_isWithin a3 (0 : Int32) (2 : Int32) (fun r_4 M_4 => ((r_4 = 0 → (Q (-9223372036854775808 : Int64) M_4)) ∧ (¬ r_4 = 0 → (wX4_isOfAnotherLane a1 a3 (fun r_6 M_6 => ((r_6 = 0 → (wX4_hasNothing a1 (fun r_8 M_8 => ((r_8 = 0 → (wX4_sizeOf a1 (fun r_10 M_10 => (wX6_isWithin a2 (0 : Int32) (r_10 - (1 : Int32)) (fun r_11 M_11 => ((r_11 = 0 → (wX6_lost (3 : Int32) (fun r_14 M_14 => (Q r_14 M_14)) M_11)) ∧ (¬ r_11 = 0 → (wX4_read a1 a2 (fun r_13 M_13 => (Q (r_13.toInt64) M_13)) M_11)))) M_10)) M_8)) ∧ (¬ r_8 = 0 → (wX6_lost (1 : Int32) (fun r_15 M_15 => (Q r_15 M_15)) M_8)))) M_6)) ∧ (¬ r_6 = 0 → (wX6_lost (2 : Int32) (fun r_16 M_16 => (Q r_16 M_16)) M_6)))) M_4)))) M_2)))) M_1))
set_option maxHeartbeats 4000000 in
set_option maxRecDepth 100000 in
theorem ctX6_cell (l : Launch) (D : va_G) (cI cJ : ClassId) (ad : Nat → Nat) (had : inj54 ad) (a1 : Int32) (a2 : Int32) (a3 : Int32) (Q : Int64 → Mm → Prop) (M : Mm) (hF : wX6_cell a1 a2 a3 Q M) : Met l yX6_cell wsX6_cell ({ frames := 3, cells := 0, slots := 0, locals := 64 } : Room) (PcW D cI cJ ad M [.ref (ad 0), .int a1, .int a2, .int a3]) (QlW D cI cJ ad Q) 0 0 (Fr ad) := by
  refine entW (y := yX6_cell) (ret := some .long) (maxL := 4) (plainFor_of_name (by decide)) rfl (Nat.le_of_ble_eq_true rfl) ?_
  intro p e s m args below meth c ls S hK hr hlocks hP hS hl
  have hx := S.1
  have hb := S.2.1
  have hown := S.2.2.2.1
  have hts := S.2.2.2.2
  have i6 : ∀ w ∈ wsX60, w ∈ wsX6_cell := by decide +kernel
  have k55 := hts (.fieldLink RX6 55 "RopeLine" "faultNow" "I") (by decide +kernel)
  have k12 := hts (.fieldLink RX6 12 "RopeLine" "sheets" "LRopeLine$Sheets;") (by decide +kernel)
  have hl : lv_has ls 4 [(0, .ref (ad 0)), (1, .int a1), (2, .int a2), (3, .int a3)] := hl
  unfold wX6_cell at hF
  refine lv_aload_n hx hb dX6_cell_0 rfl (lv_at hl 0 rfl) ?_
  refine lv_iconst (v := 0) hx hb dX6_cell_1 (by decide) ?_
  refine pF S hK had hP hS i6 tyX6_ok nmX6 e_R rfl 8 (by decide) k55 rfl rfl rfl (Nat.lt_of_lt_of_eq (by decide) len_R.symm) s_R_faultNow dX6_cell_2 (fun M_1 H locs eM_1 hP hS => ?_)
  have hF := hF M_1 eM_1
  refine lv_aload_n hx hb dX6_cell_5 rfl (lv_at hl 0 rfl) ?_
  refine gF S hK hP i6 e_R rfl 0 (by decide) k12 f_R_sheets dX6_cell_6 ?_
  refine lv_iload_n hx hb dX6_cell_9 rfl (lv_at hl 1 rfl) ?_
  refine goZ (rV (rest := []) S hK hP (ctX4_has l D cI cJ ad had a1 _ _ hF) (cwV 1 hts gX6_cell_X4_has rfl rfl rfl hdV_X4_has ⟨Nat.le_of_ble_eq_true rfl, Nat.le_of_ble_eq_true rfl⟩) e_S rfl rfl hl.1 rfl (Nat.le_of_ble_eq_true rfl) dX6_cell_10 ⟨Nat.zero_le _, Nat.zero_le _⟩) hS (fun _ h => h) (fun r_2 M_2 H locs hP hS hz_r_2 hF => ?_)
  refine lv_if_eq (tgt := 25) hx hb dX6_cell_13 (by decide) (fun c_3 => ?_) (fun c_3 => ?_)
  · have hF := hF.1 c_3
    refine lv_ldc2 (v := -9223372036854775808) hx hb hown (hts (.constantLong RX6 156 (-9223372036854775808)) (by decide +kernel)) dX6_cell_25 ?_
    exact retL S hr hlocks hP hS hF dX6_cell_28
  · have hF := hF.2 c_3
    refine lv_iload_n hx hb dX6_cell_16 rfl (lv_at hl 3 rfl) ?_
    refine lv_iconst (v := 0) hx hb dX6_cell_17 (by decide) ?_
    refine lv_iconst (v := 2) hx hb dX6_cell_18 (by decide) ?_
    refine goZ (rS (rest := []) S hK hP (ctX6_isWithin l D cI cJ ad had a3 (0 : Int32) (2 : Int32) _ _ hF) (va_cwS 3 hts gX6_cell_X6_isWithin rfl rfl rfl hdS_X6_isWithin ⟨Nat.le_of_ble_eq_true rfl, Nat.le_of_ble_eq_true rfl⟩) rfl hl.1 rfl (Nat.le_of_ble_eq_true rfl) dX6_cell_19 ⟨Nat.zero_le _, Nat.zero_le _⟩) hS (fun _ h => h) (fun r_4 M_4 H locs hP hS hz_r_4 hF => ?_)
    refine lv_if_ne (tgt := 29) hx hb dX6_cell_22 (by decide) (fun c_5 => ?_) (fun c_5 => ?_)
    · have hF := hF.2 c_5
      refine lv_aload_n hx hb dX6_cell_29 rfl (lv_at hl 0 rfl) ?_
      refine gF S hK hP i6 e_R rfl 0 (by decide) k12 f_R_sheets dX6_cell_30 ?_
      refine lv_iload_n hx hb dX6_cell_33 rfl (lv_at hl 1 rfl) ?_
      refine lv_iload_n hx hb dX6_cell_34 rfl (lv_at hl 3 rfl) ?_
      refine goZ (rV (rest := []) S hK hP (ctX4_isOfAnotherLane l D cI cJ ad had a1 a3 _ _ hF) (cwV 2 hts gX6_cell_X4_isOfAnotherLane rfl rfl rfl hdV_X4_isOfAnotherLane ⟨Nat.le_of_ble_eq_true rfl, Nat.le_of_ble_eq_true rfl⟩) e_S rfl rfl hl.1 rfl (Nat.le_of_ble_eq_true rfl) dX6_cell_35 ⟨Nat.zero_le _, Nat.zero_le _⟩) hS (fun _ h => h) (fun r_6 M_6 H locs hP hS hz_r_6 hF => ?_)
      refine lv_if_eq (tgt := 47) hx hb dX6_cell_38 (by decide) (fun c_7 => ?_) (fun c_7 => ?_)
      · have hF := hF.1 c_7
        refine lv_aload_n hx hb dX6_cell_47 rfl (lv_at hl 0 rfl) ?_
        refine gF S hK hP i6 e_R rfl 0 (by decide) k12 f_R_sheets dX6_cell_48 ?_
        refine lv_iload_n hx hb dX6_cell_51 rfl (lv_at hl 1 rfl) ?_
        refine goZ (rV (rest := []) S hK hP (ctX4_hasNothing l D cI cJ ad had a1 _ _ hF) (cwV 1 hts gX6_cell_X4_hasNothing rfl rfl rfl hdV_X4_hasNothing ⟨Nat.le_of_ble_eq_true rfl, Nat.le_of_ble_eq_true rfl⟩) e_S rfl rfl hl.1 rfl (Nat.le_of_ble_eq_true rfl) dX6_cell_52 ⟨Nat.zero_le _, Nat.zero_le _⟩) hS (fun _ h => h) (fun r_8 M_8 H locs hP hS hz_r_8 hF => ?_)
        refine lv_if_eq (tgt := 64) hx hb dX6_cell_55 (by decide) (fun c_9 => ?_) (fun c_9 => ?_)
        · have hF := hF.1 c_9
          refine lv_iload_n hx hb dX6_cell_64 rfl (lv_at hl 2 rfl) ?_
          refine lv_iconst (v := 0) hx hb dX6_cell_65 (by decide) ?_
          refine lv_aload_n hx hb dX6_cell_66 rfl (lv_at hl 0 rfl) ?_
          refine gF S hK hP i6 e_R rfl 0 (by decide) k12 f_R_sheets dX6_cell_67 ?_
          refine lv_iload_n hx hb dX6_cell_70 rfl (lv_at hl 1 rfl) ?_
          refine goI (rV (rest := [.int (0 : Int32), .int a2]) S hK hP (ctX4_sizeOf l D cI cJ ad had a1 _ _ hF) (cwV 1 hts gX6_cell_X4_sizeOf rfl rfl rfl hdV_X4_sizeOf ⟨Nat.le_of_ble_eq_true rfl, Nat.le_of_ble_eq_true rfl⟩) e_S rfl rfl hl.1 rfl (Nat.le_of_ble_eq_true rfl) dX6_cell_71 ⟨Nat.zero_le _, Nat.zero_le _⟩) hS (fun _ h => h) (fun r_10 M_10 H locs hP hS hF => ?_)
          refine lv_iconst (v := 1) hx hb dX6_cell_74 (by decide) ?_
          refine lv_isub hx hb dX6_cell_75 ?_
          refine goZ (rS (rest := []) S hK hP (ctX6_isWithin l D cI cJ ad had a2 (0 : Int32) (r_10 - (1 : Int32)) _ _ hF) (va_cwS 3 hts gX6_cell_X6_isWithin rfl rfl rfl hdS_X6_isWithin ⟨Nat.le_of_ble_eq_true rfl, Nat.le_of_ble_eq_true rfl⟩) rfl hl.1 rfl (Nat.le_of_ble_eq_true rfl) dX6_cell_76 ⟨Nat.zero_le _, Nat.zero_le _⟩) hS (fun _ h => h) (fun r_11 M_11 H locs hP hS hz_r_11 hF => ?_)
          refine lv_if_ne (tgt := 88) hx hb dX6_cell_79 (by decide) (fun c_12 => ?_) (fun c_12 => ?_)
          · have hF := hF.2 c_12
            refine lv_aload_n hx hb dX6_cell_88 rfl (lv_at hl 0 rfl) ?_
            refine gF S hK hP i6 e_R rfl 0 (by decide) k12 f_R_sheets dX6_cell_89 ?_
            refine lv_iload_n hx hb dX6_cell_92 rfl (lv_at hl 1 rfl) ?_
            refine lv_iload_n hx hb dX6_cell_93 rfl (lv_at hl 2 rfl) ?_
            refine goI (rV (rest := []) S hK hP (ctX4_read l D cI cJ ad had a1 a2 _ _ hF) (cwV 2 hts gX6_cell_X4_read rfl rfl rfl hdV_X4_read ⟨Nat.le_of_ble_eq_true rfl, Nat.le_of_ble_eq_true rfl⟩) e_S rfl rfl hl.1 rfl (Nat.le_of_ble_eq_true rfl) dX6_cell_94 ⟨Nat.zero_le _, Nat.zero_le _⟩) hS (fun _ h => h) (fun r_13 M_13 H locs hP hS hF => ?_)
            refine lv_i2l hx hb dX6_cell_97 rfl ?_
            exact retL S hr hlocks hP hS hF dX6_cell_98
          · have hF := hF.1 c_12
            refine lv_aload_n hx hb dX6_cell_82 rfl (lv_at hl 0 rfl) ?_
            refine lv_iconst (v := 3) hx hb dX6_cell_83 (by decide) ?_
            refine goL (rV (rest := []) S hK hP (ctX6_lost l D cI cJ ad had (3 : Int32) _ _ hF) (cwV 1 hts gX6_cell_X6_lost rfl rfl rfl hdV_X6_lost ⟨Nat.le_of_ble_eq_true rfl, Nat.le_of_ble_eq_true rfl⟩) e_R rfl rfl hl.1 rfl (Nat.le_of_ble_eq_true rfl) dX6_cell_84 ⟨Nat.zero_le _, Nat.zero_le _⟩) hS (fun _ h => h) (fun r_14 M_14 H locs hP hS hF => ?_)
            exact retL S hr hlocks hP hS hF dX6_cell_87
        · have hF := hF.2 c_9
          refine lv_aload_n hx hb dX6_cell_58 rfl (lv_at hl 0 rfl) ?_
          refine lv_iconst (v := 1) hx hb dX6_cell_59 (by decide) ?_
          refine goL (rV (rest := []) S hK hP (ctX6_lost l D cI cJ ad had (1 : Int32) _ _ hF) (cwV 1 hts gX6_cell_X6_lost rfl rfl rfl hdV_X6_lost ⟨Nat.le_of_ble_eq_true rfl, Nat.le_of_ble_eq_true rfl⟩) e_R rfl rfl hl.1 rfl (Nat.le_of_ble_eq_true rfl) dX6_cell_60 ⟨Nat.zero_le _, Nat.zero_le _⟩) hS (fun _ h => h) (fun r_15 M_15 H locs hP hS hF => ?_)
          exact retL S hr hlocks hP hS hF dX6_cell_63
      · have hF := hF.2 c_7
        refine lv_aload_n hx hb dX6_cell_41 rfl (lv_at hl 0 rfl) ?_
        refine lv_iconst (v := 2) hx hb dX6_cell_42 (by decide) ?_
        refine goL (rV (rest := []) S hK hP (ctX6_lost l D cI cJ ad had (2 : Int32) _ _ hF) (cwV 1 hts gX6_cell_X6_lost rfl rfl rfl hdV_X6_lost ⟨Nat.le_of_ble_eq_true rfl, Nat.le_of_ble_eq_true rfl⟩) e_R rfl rfl hl.1 rfl (Nat.le_of_ble_eq_true rfl) dX6_cell_43 ⟨Nat.zero_le _, Nat.zero_le _⟩) hS (fun _ h => h) (fun r_16 M_16 H locs hP hS hF => ?_)
        exact retL S hr hlocks hP hS hF dX6_cell_46
    · have hF := hF.1 c_5
      refine lv_ldc2 (v := -9223372036854775808) hx hb hown (hts (.constantLong RX6 156 (-9223372036854775808)) (by decide +kernel)) dX6_cell_25 ?_
      exact retL S hr hlocks hP hS hF dX6_cell_28
def wX6_leaveNumber (a1 : Int32) (Q : Mm → Prop) (M : Mm) : Prop := (∀ M_1 : Mm, M_1 = (si M 1 (((31 : Int32) * (gi M 1)) + a1)) → (Q M_1))
set_option maxHeartbeats 4000000 in
set_option maxRecDepth 100000 in
theorem ctX6_leaveNumber (l : Launch) (D : va_G) (cI cJ : ClassId) (ad : Nat → Nat) (had : inj54 ad) (a1 : Int32) (Q : Mm → Prop) (M : Mm) (hF : wX6_leaveNumber a1 Q M) : Met l yX6_leaveNumber wsX6_leaveNumber ({ frames := 0, cells := 0, slots := 0, locals := 0 } : Room) (PcW D cI cJ ad M [.ref (ad 0), .int a1]) (QvW D cI cJ ad Q) 0 0 (Fr ad) := by
  refine entW (y := yX6_leaveNumber) (ret := none) (maxL := 2) (plainFor_of_name (by decide)) rfl (Nat.le_of_ble_eq_true rfl) ?_
  intro p e s m args below meth c ls S hK hr hlocks hP hS hl
  have hx := S.1
  have hb := S.2.1
  have hown := S.2.2.2.1
  have hts := S.2.2.2.2
  have i6 : ∀ w ∈ wsX60, w ∈ wsX6_leaveNumber := by decide +kernel
  have k325 := hts (.fieldLink RX6 325 "RopeLine" "traceNow" "I") (by decide +kernel)
  have hl : lv_has ls 2 [(0, .ref (ad 0)), (1, .int a1)] := hl
  unfold wX6_leaveNumber at hF
  refine lv_aload_n hx hb dX6_leaveNumber_0 rfl (lv_at hl 0 rfl) ?_
  refine lv_bipush (v := 31) hx hb dX6_leaveNumber_1 (by decide) ?_
  refine lv_aload_n hx hb dX6_leaveNumber_3 rfl (lv_at hl 0 rfl) ?_
  refine gF S hK hP i6 e_R rfl 7 (by decide) k325 f_R_traceNow dX6_leaveNumber_4 ?_
  refine lv_imul hx hb dX6_leaveNumber_7 ?_
  refine lv_iload_n hx hb dX6_leaveNumber_8 rfl (lv_at hl 1 rfl) ?_
  refine lv_iadd hx hb dX6_leaveNumber_9 ?_
  refine pF S hK had hP hS i6 tyX6_ok nmX6 e_R rfl 7 (by decide) k325 rfl rfl rfl (Nat.lt_of_lt_of_eq (by decide) len_R.symm) s_R_traceNow dX6_leaveNumber_10 (fun M_1 H locs eM_1 hP hS => ?_)
  have hF := hF M_1 eM_1
  exact retV S hr hlocks hP hS hF dX6_leaveNumber_13
def wX6_toldByComer (a1 : Int32) (Q : Int32 → Mm → Prop) (M : Mm) : Prop := (wX6_leaveNumber (1 : Int32) (fun M_1 => (wX6_at 27 a1 (fun r_2 M_2 => (Q r_2 M_2)) M_1)) M)
set_option maxHeartbeats 4000000 in
set_option maxRecDepth 100000 in
theorem ctX6_toldByComer (l : Launch) (D : va_G) (cI cJ : ClassId) (ad : Nat → Nat) (had : inj54 ad) (a1 : Int32) (Q : Int32 → Mm → Prop) (M : Mm) (hF : wX6_toldByComer a1 Q M) : Met l yX6_toldByComer wsX6_toldByComer ({ frames := 1, cells := 0, slots := 0, locals := 21 } : Room) (PcW D cI cJ ad M [.ref (ad 0), .int a1]) (QiW D cI cJ ad Q) 0 0 (Fr ad) := by
  refine entW (y := yX6_toldByComer) (ret := some .int) (maxL := 2) (plainFor_of_name (by decide)) rfl (Nat.le_of_ble_eq_true rfl) ?_
  intro p e s m args below meth c ls S hK hr hlocks hP hS hl
  have hx := S.1
  have hb := S.2.1
  have hown := S.2.2.2.1
  have hts := S.2.2.2.2
  have i6 : ∀ w ∈ wsX60, w ∈ wsX6_toldByComer := by decide +kernel
  have i3 : ∀ w ∈ wsX30, w ∈ wsX6_toldByComer := by decide +kernel
  have k51 := hts (.fieldLink RX6 51 "RopeLine" "queue" "LRopeLine$Queue;") (by decide +kernel)
  have hl : lv_has ls 2 [(0, .ref (ad 0)), (1, .int a1)] := hl
  unfold wX6_toldByComer at hF
  refine lv_aload_n hx hb dX6_toldByComer_0 rfl (lv_at hl 0 rfl) ?_
  refine lv_iconst (v := 1) hx hb dX6_toldByComer_1 (by decide) ?_
  refine goV (rV (rest := []) S hK hP (ctX6_leaveNumber l D cI cJ ad had (1 : Int32) _ _ hF) (cwV 1 hts gX6_toldByComer_X6_leaveNumber rfl rfl rfl hdV_X6_leaveNumber ⟨Nat.le_of_ble_eq_true rfl, Nat.le_of_ble_eq_true rfl⟩) e_R rfl rfl hl.1 rfl (Nat.le_of_ble_eq_true rfl) dX6_toldByComer_2 ⟨Nat.zero_le _, Nat.zero_le _⟩) hS (fun _ h => h) (fun M_1 H locs hP hS hF => ?_)
  refine lv_aload_n hx hb dX6_toldByComer_5 rfl (lv_at hl 0 rfl) ?_
  refine gF S hK hP i6 e_R rfl 5 (by decide) k51 f_R_queue dX6_toldByComer_6 ?_
  refine gN S hK hP i3 e_Q rfl 1 (by decide) nw_RX6_269 f_Q_sorts dX6_toldByComer_9 ?_
  refine lv_iload_n hx hb dX6_toldByComer_12 rfl (lv_at hl 1 rfl) ?_
  refine goI (rS (rest := []) S hK hP (ctX6_at l D cI cJ ad had 27 rfl a1 _ _ hF) (va_cwS 2 hts gX6_toldByComer_X6_at rfl rfl rfl hdS_X6_at ⟨Nat.le_of_ble_eq_true rfl, Nat.le_of_ble_eq_true rfl⟩) rfl hl.1 rfl (Nat.le_of_ble_eq_true rfl) dX6_toldByComer_13 ⟨Nat.zero_le _, Nat.zero_le _⟩) hS (fun _ h => h) (fun r_2 M_2 H locs hP hS hF => ?_)
  exact retI S hr hlocks hP hS hF dX6_toldByComer_16
def wX6_toldByStands (a1 : Int32) (Q : Int32 → Mm → Prop) (M : Mm) : Prop := (wX6_leaveNumber (2 : Int32) (fun M_1 => (wX6_toldByComer a1 (fun r_2 M_2 => (wX6_at 28 a1 (fun r_3 M_3 => (Q (r_2 + ((10 : Int32) * r_3)) M_3)) M_2)) M_1)) M)
set_option maxHeartbeats 4000000 in
set_option maxRecDepth 100000 in
theorem ctX6_toldByStands (l : Launch) (D : va_G) (cI cJ : ClassId) (ad : Nat → Nat) (had : inj54 ad) (a1 : Int32) (Q : Int32 → Mm → Prop) (M : Mm) (hF : wX6_toldByStands a1 Q M) : Met l yX6_toldByStands wsX6_toldByStands ({ frames := 2, cells := 0, slots := 0, locals := 42 } : Room) (PcW D cI cJ ad M [.ref (ad 0), .int a1]) (QiW D cI cJ ad Q) 0 0 (Fr ad) := by
  refine entW (y := yX6_toldByStands) (ret := some .int) (maxL := 2) (plainFor_of_name (by decide)) rfl (Nat.le_of_ble_eq_true rfl) ?_
  intro p e s m args below meth c ls S hK hr hlocks hP hS hl
  have hx := S.1
  have hb := S.2.1
  have hown := S.2.2.2.1
  have hts := S.2.2.2.2
  have i6 : ∀ w ∈ wsX60, w ∈ wsX6_toldByStands := by decide +kernel
  have i3 : ∀ w ∈ wsX30, w ∈ wsX6_toldByStands := by decide +kernel
  have k51 := hts (.fieldLink RX6 51 "RopeLine" "queue" "LRopeLine$Queue;") (by decide +kernel)
  have hl : lv_has ls 2 [(0, .ref (ad 0)), (1, .int a1)] := hl
  unfold wX6_toldByStands at hF
  refine lv_aload_n hx hb dX6_toldByStands_0 rfl (lv_at hl 0 rfl) ?_
  refine lv_iconst (v := 2) hx hb dX6_toldByStands_1 (by decide) ?_
  refine goV (rV (rest := []) S hK hP (ctX6_leaveNumber l D cI cJ ad had (2 : Int32) _ _ hF) (cwV 1 hts gX6_toldByStands_X6_leaveNumber rfl rfl rfl hdV_X6_leaveNumber ⟨Nat.le_of_ble_eq_true rfl, Nat.le_of_ble_eq_true rfl⟩) e_R rfl rfl hl.1 rfl (Nat.le_of_ble_eq_true rfl) dX6_toldByStands_2 ⟨Nat.zero_le _, Nat.zero_le _⟩) hS (fun _ h => h) (fun M_1 H locs hP hS hF => ?_)
  refine lv_aload_n hx hb dX6_toldByStands_5 rfl (lv_at hl 0 rfl) ?_
  refine lv_iload_n hx hb dX6_toldByStands_6 rfl (lv_at hl 1 rfl) ?_
  refine goI (rV (rest := []) S hK hP (ctX6_toldByComer l D cI cJ ad had a1 _ _ hF) (cwV 1 hts gX6_toldByStands_X6_toldByComer rfl rfl rfl hdV_X6_toldByComer ⟨Nat.le_of_ble_eq_true rfl, Nat.le_of_ble_eq_true rfl⟩) e_R rfl rfl hl.1 rfl (Nat.le_of_ble_eq_true rfl) dX6_toldByStands_7 ⟨Nat.zero_le _, Nat.zero_le _⟩) hS (fun _ h => h) (fun r_2 M_2 H locs hP hS hF => ?_)
  refine lv_bipush (v := 10) hx hb dX6_toldByStands_10 (by decide) ?_
  refine lv_aload_n hx hb dX6_toldByStands_12 rfl (lv_at hl 0 rfl) ?_
  refine gF S hK hP i6 e_R rfl 5 (by decide) k51 f_R_queue dX6_toldByStands_13 ?_
  refine gN S hK hP i3 e_Q rfl 2 (by decide) nw_RX6_271 f_Q_waited dX6_toldByStands_16 ?_
  refine lv_iload_n hx hb dX6_toldByStands_19 rfl (lv_at hl 1 rfl) ?_
  refine goI (rS (rest := [.int (10 : Int32), .int r_2]) S hK hP (ctX6_at l D cI cJ ad had 28 rfl a1 _ _ hF) (va_cwS 2 hts gX6_toldByStands_X6_at rfl rfl rfl hdS_X6_at ⟨Nat.le_of_ble_eq_true rfl, Nat.le_of_ble_eq_true rfl⟩) rfl hl.1 rfl (Nat.le_of_ble_eq_true rfl) dX6_toldByStands_20 ⟨Nat.zero_le _, Nat.zero_le _⟩) hS (fun _ h => h) (fun r_3 M_3 H locs hP hS hF => ?_)
  refine lv_imul hx hb dX6_toldByStands_23 ?_
  refine lv_iadd hx hb dX6_toldByStands_24 ?_
  exact retI S hr hlocks hP hS hF dX6_toldByStands_25
def wX6_toldByDone (a1 : Int32) (Q : Int32 → Mm → Prop) (M : Mm) : Prop := (wX6_leaveNumber (3 : Int32) (fun M_1 => (wX6_toldByStands a1 (fun r_2 M_2 => (wX6_toldByComer a1 (fun r_3 M_3 => (Q (r_2 + r_3) M_3)) M_2)) M_1)) M)
set_option maxHeartbeats 4000000 in
set_option maxRecDepth 100000 in
theorem ctX6_toldByDone (l : Launch) (D : va_G) (cI cJ : ClassId) (ad : Nat → Nat) (had : inj54 ad) (a1 : Int32) (Q : Int32 → Mm → Prop) (M : Mm) (hF : wX6_toldByDone a1 Q M) : Met l yX6_toldByDone wsX6_toldByDone ({ frames := 3, cells := 0, slots := 0, locals := 63 } : Room) (PcW D cI cJ ad M [.ref (ad 0), .int a1]) (QiW D cI cJ ad Q) 0 0 (Fr ad) := by
  refine entW (y := yX6_toldByDone) (ret := some .int) (maxL := 3) (plainFor_of_name (by decide)) rfl (Nat.le_of_ble_eq_true rfl) ?_
  intro p e s m args below meth c ls S hK hr hlocks hP hS hl
  have hx := S.1
  have hb := S.2.1
  have hown := S.2.2.2.1
  have hts := S.2.2.2.2
  have hl : lv_has ls 3 [(0, .ref (ad 0)), (1, .int a1)] := hl
  unfold wX6_toldByDone at hF
  refine lv_aload_n hx hb dX6_toldByDone_0 rfl (lv_at hl 0 rfl) ?_
  refine lv_iconst (v := 3) hx hb dX6_toldByDone_1 (by decide) ?_
  refine goV (rV (rest := []) S hK hP (ctX6_leaveNumber l D cI cJ ad had (3 : Int32) _ _ hF) (cwV 1 hts gX6_toldByDone_X6_leaveNumber rfl rfl rfl hdV_X6_leaveNumber ⟨Nat.le_of_ble_eq_true rfl, Nat.le_of_ble_eq_true rfl⟩) e_R rfl rfl hl.1 rfl (Nat.le_of_ble_eq_true rfl) dX6_toldByDone_2 ⟨Nat.zero_le _, Nat.zero_le _⟩) hS (fun _ h => h) (fun M_1 H locs hP hS hF => ?_)
  refine lv_aload_n hx hb dX6_toldByDone_5 rfl (lv_at hl 0 rfl) ?_
  refine lv_iload_n hx hb dX6_toldByDone_6 rfl (lv_at hl 1 rfl) ?_
  refine goI (rV (rest := []) S hK hP (ctX6_toldByStands l D cI cJ ad had a1 _ _ hF) (cwV 1 hts gX6_toldByDone_X6_toldByStands rfl rfl rfl hdV_X6_toldByStands ⟨Nat.le_of_ble_eq_true rfl, Nat.le_of_ble_eq_true rfl⟩) e_R rfl rfl hl.1 rfl (Nat.le_of_ble_eq_true rfl) dX6_toldByDone_7 ⟨Nat.zero_le _, Nat.zero_le _⟩) hS (fun _ h => h) (fun r_2 M_2 H locs hP hS hF => ?_)
  refine lv_istore_n (lv' := [(2, .int r_2), (0, .ref (ad 0)), (1, .int a1)]) hx hb dX6_toldByDone_10 rfl hl (by decide) rfl (fun ls hl => ?_)
  refine lv_iload_n hx hb dX6_toldByDone_11 rfl (lv_at hl 0 rfl) ?_
  refine lv_aload_n hx hb dX6_toldByDone_12 rfl (lv_at hl 1 rfl) ?_
  refine lv_iload_n hx hb dX6_toldByDone_13 rfl (lv_at hl 2 rfl) ?_
  refine goI (rV (rest := [.int r_2]) S hK hP (ctX6_toldByComer l D cI cJ ad had a1 _ _ hF) (cwV 1 hts gX6_toldByDone_X6_toldByComer rfl rfl rfl hdV_X6_toldByComer ⟨Nat.le_of_ble_eq_true rfl, Nat.le_of_ble_eq_true rfl⟩) e_R rfl rfl hl.1 rfl (Nat.le_of_ble_eq_true rfl) dX6_toldByDone_14 ⟨Nat.zero_le _, Nat.zero_le _⟩) hS (fun _ h => h) (fun r_3 M_3 H locs hP hS hF => ?_)
  refine lv_iadd hx hb dX6_toldByDone_17 ?_
  exact retI S hr hlocks hP hS hF dX6_toldByDone_18
def wX6_tell (a1 : Int32) (Q : Int32 → Mm → Prop) (M : Mm) : Prop := (wX3_has a1 (fun r_1 M_1 => ((r_1 = 0 → (Q (-1 : Int32) M_1)) ∧ (¬ r_1 = 0 → (wX6_at 26 a1 (fun r_3 M_3 => ((r_3 = 1 → (wX6_toldByStands a1 (fun r_5 M_5 => (Q r_5 M_5)) M_3)) ∧ (¬ r_3 = 1 → ((r_3 = 2 → (wX6_toldByDone a1 (fun r_7 M_7 => (Q r_7 M_7)) M_3)) ∧ (¬ r_3 = 2 → (wX6_toldByComer a1 (fun r_8 M_8 => (Q r_8 M_8)) M_3)))))) M_1)))) M)
set_option maxHeartbeats 4000000 in
set_option maxRecDepth 100000 in
theorem ctX6_tell (l : Launch) (D : va_G) (cI cJ : ClassId) (ad : Nat → Nat) (had : inj54 ad) (a1 : Int32) (Q : Int32 → Mm → Prop) (M : Mm) (hF : wX6_tell a1 Q M) : Met l yX6_tell wsX6_tell ({ frames := 4, cells := 0, slots := 0, locals := 85 } : Room) (PcW D cI cJ ad M [.ref (ad 0), .int a1]) (QiW D cI cJ ad Q) 0 0 (Fr ad) := by
  refine entW (y := yX6_tell) (ret := some .int) (maxL := 2) (plainFor_of_name (by decide)) rfl (Nat.le_of_ble_eq_true rfl) ?_
  intro p e s m args below meth c ls S hK hr hlocks hP hS hl
  have hx := S.1
  have hb := S.2.1
  have hown := S.2.2.2.1
  have hts := S.2.2.2.2
  have i6 : ∀ w ∈ wsX60, w ∈ wsX6_tell := by decide +kernel
  have i3 : ∀ w ∈ wsX30, w ∈ wsX6_tell := by decide +kernel
  have k51 := hts (.fieldLink RX6 51 "RopeLine" "queue" "LRopeLine$Queue;") (by decide +kernel)
  have hl : lv_has ls 2 [(0, .ref (ad 0)), (1, .int a1)] := hl
  unfold wX6_tell at hF
  refine lv_aload_n hx hb dX6_tell_0 rfl (lv_at hl 0 rfl) ?_
  refine gF S hK hP i6 e_R rfl 5 (by decide) k51 f_R_queue dX6_tell_1 ?_
  refine lv_iload_n hx hb dX6_tell_4 rfl (lv_at hl 1 rfl) ?_
  refine goZ (rV (rest := []) S hK hP (ctX3_has l D cI cJ ad had a1 _ _ hF) (cwV 1 hts gX6_tell_X3_has rfl rfl rfl hdV_X3_has ⟨Nat.le_of_ble_eq_true rfl, Nat.le_of_ble_eq_true rfl⟩) e_Q rfl rfl hl.1 rfl (Nat.le_of_ble_eq_true rfl) dX6_tell_5 ⟨Nat.zero_le _, Nat.zero_le _⟩) hS (fun _ h => h) (fun r_1 M_1 H locs hP hS hz_r_1 hF => ?_)
  refine lv_if_ne (tgt := 13) hx hb dX6_tell_8 (by decide) (fun c_2 => ?_) (fun c_2 => ?_)
  · have hF := hF.2 c_2
    refine lv_aload_n hx hb dX6_tell_13 rfl (lv_at hl 0 rfl) ?_
    refine gF S hK hP i6 e_R rfl 5 (by decide) k51 f_R_queue dX6_tell_14 ?_
    refine gN S hK hP i3 e_Q rfl 0 (by decide) nw_RX6_266 f_Q_kinds dX6_tell_17 ?_
    refine lv_iload_n hx hb dX6_tell_20 rfl (lv_at hl 1 rfl) ?_
    refine goI (rS (rest := []) S hK hP (ctX6_at l D cI cJ ad had 26 rfl a1 _ _ hF) (va_cwS 2 hts gX6_tell_X6_at rfl rfl rfl hdS_X6_at ⟨Nat.le_of_ble_eq_true rfl, Nat.le_of_ble_eq_true rfl⟩) rfl hl.1 rfl (Nat.le_of_ble_eq_true rfl) dX6_tell_21 ⟨Nat.zero_le _, Nat.zero_le _⟩) hS (fun _ h => h) (fun r_3 M_3 H locs hP hS hF => ?_)
    by_cases c_4 : r_3 = 1
    · have hF := hF.1 c_4
      refine lv_lookup (off := 34) (tgt := 58) hx hb dX6_tell_24 (by decide) (by rw [c_4]; rfl) (by decide) ?_
      refine lv_aload_n hx hb dX6_tell_58 rfl (lv_at hl 0 rfl) ?_
      refine lv_iload_n hx hb dX6_tell_59 rfl (lv_at hl 1 rfl) ?_
      refine goI (rV (rest := []) S hK hP (ctX6_toldByStands l D cI cJ ad had a1 _ _ hF) (cwV 1 hts gX6_tell_X6_toldByStands rfl rfl rfl hdV_X6_toldByStands ⟨Nat.le_of_ble_eq_true rfl, Nat.le_of_ble_eq_true rfl⟩) e_R rfl rfl hl.1 rfl (Nat.le_of_ble_eq_true rfl) dX6_tell_60 ⟨Nat.zero_le _, Nat.zero_le _⟩) hS (fun _ h => h) (fun r_5 M_5 H locs hP hS hF => ?_)
      exact retI S hr hlocks hP hS hF dX6_tell_63
    · have hF := hF.2 c_4
      by_cases c_6 : r_3 = 2
      · have hF := hF.1 c_6
        refine lv_lookup (off := 28) (tgt := 52) hx hb dX6_tell_24 (by decide) (by rw [c_6]; rfl) (by decide) ?_
        refine lv_aload_n hx hb dX6_tell_52 rfl (lv_at hl 0 rfl) ?_
        refine lv_iload_n hx hb dX6_tell_53 rfl (lv_at hl 1 rfl) ?_
        refine goI (rV (rest := []) S hK hP (ctX6_toldByDone l D cI cJ ad had a1 _ _ hF) (cwV 1 hts gX6_tell_X6_toldByDone rfl rfl rfl hdV_X6_toldByDone ⟨Nat.le_of_ble_eq_true rfl, Nat.le_of_ble_eq_true rfl⟩) e_R rfl rfl hl.1 rfl (Nat.le_of_ble_eq_true rfl) dX6_tell_54 ⟨Nat.zero_le _, Nat.zero_le _⟩) hS (fun _ h => h) (fun r_7 M_7 H locs hP hS hF => ?_)
        exact retI S hr hlocks hP hS hF dX6_tell_57
      · have hF := hF.2 c_6
        refine lv_lookup (off := 40) (tgt := 64) hx hb dX6_tell_24 (by decide) ((lv_osw c_4 (k := 1) (by decide)).trans ((lv_osw c_6 (k := 2) (by decide)).trans (rfl))) (by decide) ?_
        refine lv_aload_n hx hb dX6_tell_64 rfl (lv_at hl 0 rfl) ?_
        refine lv_iload_n hx hb dX6_tell_65 rfl (lv_at hl 1 rfl) ?_
        refine goI (rV (rest := []) S hK hP (ctX6_toldByComer l D cI cJ ad had a1 _ _ hF) (cwV 1 hts gX6_tell_X6_toldByComer rfl rfl rfl hdV_X6_toldByComer ⟨Nat.le_of_ble_eq_true rfl, Nat.le_of_ble_eq_true rfl⟩) e_R rfl rfl hl.1 rfl (Nat.le_of_ble_eq_true rfl) dX6_tell_66 ⟨Nat.zero_le _, Nat.zero_le _⟩) hS (fun _ h => h) (fun r_8 M_8 H locs hP hS hF => ?_)
        exact retI S hr hlocks hP hS hF dX6_tell_69
  · have hF := hF.1 c_2
    refine lv_iconst (v := -1) hx hb dX6_tell_11 (by decide) ?_
    exact retI S hr hlocks hP hS hF dX6_tell_12
def wX6_calledByDone (Q : Int32 → Mm → Prop) (M : Mm) : Prop := (wX6_leaveNumber (5 : Int32) (fun M_1 => (Q (90 : Int32) M_1)) M)
set_option maxHeartbeats 4000000 in
set_option maxRecDepth 100000 in
theorem ctX6_calledByDone (l : Launch) (D : va_G) (cI cJ : ClassId) (ad : Nat → Nat) (had : inj54 ad)  (Q : Int32 → Mm → Prop) (M : Mm) (hF : wX6_calledByDone Q M) : Met l yX6_calledByDone wsX6_calledByDone ({ frames := 1, cells := 0, slots := 0, locals := 21 } : Room) (PcW D cI cJ ad M [.ref (ad 0)]) (QiW D cI cJ ad Q) 0 0 (Fr ad) := by
  refine entW (y := yX6_calledByDone) (ret := some .int) (maxL := 1) (plainFor_of_name (by decide)) rfl (Nat.le_of_ble_eq_true rfl) ?_
  intro p e s m args below meth c ls S hK hr hlocks hP hS hl
  have hx := S.1
  have hb := S.2.1
  have hown := S.2.2.2.1
  have hts := S.2.2.2.2
  have hl : lv_has ls 1 [(0, .ref (ad 0))] := hl
  unfold wX6_calledByDone at hF
  refine lv_aload_n hx hb dX6_calledByDone_0 rfl (lv_at hl 0 rfl) ?_
  refine lv_iconst (v := 5) hx hb dX6_calledByDone_1 (by decide) ?_
  refine goV (rV (rest := []) S hK hP (ctX6_leaveNumber l D cI cJ ad had (5 : Int32) _ _ hF) (cwV 1 hts gX6_calledByDone_X6_leaveNumber rfl rfl rfl hdV_X6_leaveNumber ⟨Nat.le_of_ble_eq_true rfl, Nat.le_of_ble_eq_true rfl⟩) e_R rfl rfl hl.1 rfl (Nat.le_of_ble_eq_true rfl) dX6_calledByDone_2 ⟨Nat.zero_le _, Nat.zero_le _⟩) hS (fun _ h => h) (fun M_1 H locs hP hS hF => ?_)
  refine lv_bipush (v := 90) hx hb dX6_calledByDone_5 (by decide) ?_
  exact retI S hr hlocks hP hS hF dX6_calledByDone_7
def wX6_calledByLent (a1 : Int32) (Q : Int32 → Mm → Prop) (M : Mm) : Prop := (wX6_leaveNumber (4 : Int32) (fun M_1 => (Q a1 M_1)) M)
set_option maxHeartbeats 4000000 in
set_option maxRecDepth 100000 in
theorem ctX6_calledByLent (l : Launch) (D : va_G) (cI cJ : ClassId) (ad : Nat → Nat) (had : inj54 ad) (a1 : Int32) (Q : Int32 → Mm → Prop) (M : Mm) (hF : wX6_calledByLent a1 Q M) : Met l yX6_calledByLent wsX6_calledByLent ({ frames := 1, cells := 0, slots := 0, locals := 21 } : Room) (PcW D cI cJ ad M [.ref (ad 0), .int a1]) (QiW D cI cJ ad Q) 0 0 (Fr ad) := by
  refine entW (y := yX6_calledByLent) (ret := some .int) (maxL := 2) (plainFor_of_name (by decide)) rfl (Nat.le_of_ble_eq_true rfl) ?_
  intro p e s m args below meth c ls S hK hr hlocks hP hS hl
  have hx := S.1
  have hb := S.2.1
  have hown := S.2.2.2.1
  have hts := S.2.2.2.2
  have hl : lv_has ls 2 [(0, .ref (ad 0)), (1, .int a1)] := hl
  unfold wX6_calledByLent at hF
  refine lv_aload_n hx hb dX6_calledByLent_0 rfl (lv_at hl 0 rfl) ?_
  refine lv_iconst (v := 4) hx hb dX6_calledByLent_1 (by decide) ?_
  refine goV (rV (rest := []) S hK hP (ctX6_leaveNumber l D cI cJ ad had (4 : Int32) _ _ hF) (cwV 1 hts gX6_calledByLent_X6_leaveNumber rfl rfl rfl hdV_X6_leaveNumber ⟨Nat.le_of_ble_eq_true rfl, Nat.le_of_ble_eq_true rfl⟩) e_R rfl rfl hl.1 rfl (Nat.le_of_ble_eq_true rfl) dX6_calledByLent_2 ⟨Nat.zero_le _, Nat.zero_le _⟩) hS (fun _ h => h) (fun M_1 H locs hP hS hF => ?_)
  refine lv_iload_n hx hb dX6_calledByLent_5 rfl (lv_at hl 1 rfl) ?_
  exact retI S hr hlocks hP hS hF dX6_calledByLent_6
def wX6_call (a1 : Int32) (Q : Int32 → Mm → Prop) (M : Mm) : Prop := (wX3_has a1 (fun r_1 M_1 => ((r_1 = 0 → (Q (-1 : Int32) M_1)) ∧ (¬ r_1 = 0 → (wX6_isKind a1 (2 : Int32) (fun r_3 M_3 => ((r_3 = 0 → (wX6_calledByLent a1 (fun r_5 M_5 => (Q r_5 M_5)) M_3)) ∧ (¬ r_3 = 0 → (wX6_calledByDone (fun r_6 M_6 => (Q r_6 M_6)) M_3)))) M_1)))) M)
set_option maxHeartbeats 4000000 in
set_option maxRecDepth 100000 in
theorem ctX6_call (l : Launch) (D : va_G) (cI cJ : ClassId) (ad : Nat → Nat) (had : inj54 ad) (a1 : Int32) (Q : Int32 → Mm → Prop) (M : Mm) (hF : wX6_call a1 Q M) : Met l yX6_call wsX6_call ({ frames := 2, cells := 0, slots := 0, locals := 43 } : Room) (PcW D cI cJ ad M [.ref (ad 0), .int a1]) (QiW D cI cJ ad Q) 0 0 (Fr ad) := by
  refine entW (y := yX6_call) (ret := some .int) (maxL := 2) (plainFor_of_name (by decide)) rfl (Nat.le_of_ble_eq_true rfl) ?_
  intro p e s m args below meth c ls S hK hr hlocks hP hS hl
  have hx := S.1
  have hb := S.2.1
  have hown := S.2.2.2.1
  have hts := S.2.2.2.2
  have i6 : ∀ w ∈ wsX60, w ∈ wsX6_call := by decide +kernel
  have k51 := hts (.fieldLink RX6 51 "RopeLine" "queue" "LRopeLine$Queue;") (by decide +kernel)
  have hl : lv_has ls 2 [(0, .ref (ad 0)), (1, .int a1)] := hl
  unfold wX6_call at hF
  refine lv_aload_n hx hb dX6_call_0 rfl (lv_at hl 0 rfl) ?_
  refine gF S hK hP i6 e_R rfl 5 (by decide) k51 f_R_queue dX6_call_1 ?_
  refine lv_iload_n hx hb dX6_call_4 rfl (lv_at hl 1 rfl) ?_
  refine goZ (rV (rest := []) S hK hP (ctX3_has l D cI cJ ad had a1 _ _ hF) (cwV 1 hts gX6_call_X3_has rfl rfl rfl hdV_X3_has ⟨Nat.le_of_ble_eq_true rfl, Nat.le_of_ble_eq_true rfl⟩) e_Q rfl rfl hl.1 rfl (Nat.le_of_ble_eq_true rfl) dX6_call_5 ⟨Nat.zero_le _, Nat.zero_le _⟩) hS (fun _ h => h) (fun r_1 M_1 H locs hP hS hz_r_1 hF => ?_)
  refine lv_if_ne (tgt := 13) hx hb dX6_call_8 (by decide) (fun c_2 => ?_) (fun c_2 => ?_)
  · have hF := hF.2 c_2
    refine lv_aload_n hx hb dX6_call_13 rfl (lv_at hl 0 rfl) ?_
    refine lv_iload_n hx hb dX6_call_14 rfl (lv_at hl 1 rfl) ?_
    refine lv_iconst (v := 2) hx hb dX6_call_15 (by decide) ?_
    refine goZ (rV (rest := []) S hK hP (ctX6_isKind l D cI cJ ad had a1 (2 : Int32) _ _ hF) (cwV 2 hts gX6_call_X6_isKind rfl rfl rfl hdV_X6_isKind ⟨Nat.le_of_ble_eq_true rfl, Nat.le_of_ble_eq_true rfl⟩) e_R rfl rfl hl.1 rfl (Nat.le_of_ble_eq_true rfl) dX6_call_16 ⟨Nat.zero_le _, Nat.zero_le _⟩) hS (fun _ h => h) (fun r_3 M_3 H locs hP hS hz_r_3 hF => ?_)
    refine lv_if_eq (tgt := 29) hx hb dX6_call_19 (by decide) (fun c_4 => ?_) (fun c_4 => ?_)
    · have hF := hF.1 c_4
      refine lv_aload_n hx hb dX6_call_29 rfl (lv_at hl 0 rfl) ?_
      refine lv_iload_n hx hb dX6_call_30 rfl (lv_at hl 1 rfl) ?_
      refine goI (rV (rest := []) S hK hP (ctX6_calledByLent l D cI cJ ad had a1 _ _ hF) (cwV 1 hts gX6_call_X6_calledByLent rfl rfl rfl hdV_X6_calledByLent ⟨Nat.le_of_ble_eq_true rfl, Nat.le_of_ble_eq_true rfl⟩) e_R rfl rfl hl.1 rfl (Nat.le_of_ble_eq_true rfl) dX6_call_31 ⟨Nat.zero_le _, Nat.zero_le _⟩) hS (fun _ h => h) (fun r_5 M_5 H locs hP hS hF => ?_)
      exact retI S hr hlocks hP hS hF dX6_call_34
    · have hF := hF.2 c_4
      refine lv_aload_n hx hb dX6_call_22 rfl (lv_at hl 0 rfl) ?_
      refine goI (rV (rest := []) S hK hP (ctX6_calledByDone l D cI cJ ad had  _ _ hF) (cwV 0 hts gX6_call_X6_calledByDone rfl rfl rfl hdV_X6_calledByDone ⟨Nat.le_of_ble_eq_true rfl, Nat.le_of_ble_eq_true rfl⟩) e_R rfl rfl hl.1 rfl (Nat.le_of_ble_eq_true rfl) dX6_call_23 ⟨Nat.zero_le _, Nat.zero_le _⟩) hS (fun _ h => h) (fun r_6 M_6 H locs hP hS hF => ?_)
      refine lv_goto (tgt := 34) hx hb dX6_call_26 (by decide) ?_
      exact retI S hr hlocks hP hS hF dX6_call_34
  · have hF := hF.1 c_2
    refine lv_iconst (v := -1) hx hb dX6_call_11 (by decide) ?_
    exact retI S hr hlocks hP hS hF dX6_call_12
def wX6_as (a1 : Int32) (a2 : Int32) (Q : Int32 → Mm → Prop) (M : Mm) : Prop := (∀ M_1 : Mm, M_1 = (si M 2 (0 : Int32)) → (wX3_has a1 (fun r_2 M_2 => ((r_2 = 0 → (Q (-1 : Int32) M_2)) ∧ (¬ r_2 = 0 → (wX6_isWithin a2 (0 : Int32) (2 : Int32) (fun r_4 M_4 => ((r_4 = 0 → (Q (-2 : Int32) M_4)) ∧ (¬ r_4 = 0 → (wX6_isKind a1 a2 (fun r_6 M_6 => ((r_6 = 0 → (wX6_faulted (2 : Int32) (fun r_8 M_8 => (Q r_8 M_8)) M_6)) ∧ (¬ r_6 = 0 → (Q (1 : Int32) M_6)))) M_4)))) M_2)))) M_1))
set_option maxHeartbeats 4000000 in
set_option maxRecDepth 100000 in
theorem ctX6_as (l : Launch) (D : va_G) (cI cJ : ClassId) (ad : Nat → Nat) (had : inj54 ad) (a1 : Int32) (a2 : Int32) (Q : Int32 → Mm → Prop) (M : Mm) (hF : wX6_as a1 a2 Q M) : Met l yX6_as wsX6_as ({ frames := 2, cells := 0, slots := 0, locals := 43 } : Room) (PcW D cI cJ ad M [.ref (ad 0), .int a1, .int a2]) (QiW D cI cJ ad Q) 0 0 (Fr ad) := by
  refine entW (y := yX6_as) (ret := some .int) (maxL := 3) (plainFor_of_name (by decide)) rfl (Nat.le_of_ble_eq_true rfl) ?_
  intro p e s m args below meth c ls S hK hr hlocks hP hS hl
  have hx := S.1
  have hb := S.2.1
  have hown := S.2.2.2.1
  have hts := S.2.2.2.2
  have i6 : ∀ w ∈ wsX60, w ∈ wsX6_as := by decide +kernel
  have k55 := hts (.fieldLink RX6 55 "RopeLine" "faultNow" "I") (by decide +kernel)
  have k51 := hts (.fieldLink RX6 51 "RopeLine" "queue" "LRopeLine$Queue;") (by decide +kernel)
  have hl : lv_has ls 3 [(0, .ref (ad 0)), (1, .int a1), (2, .int a2)] := hl
  unfold wX6_as at hF
  refine lv_aload_n hx hb dX6_as_0 rfl (lv_at hl 0 rfl) ?_
  refine lv_iconst (v := 0) hx hb dX6_as_1 (by decide) ?_
  refine pF S hK had hP hS i6 tyX6_ok nmX6 e_R rfl 8 (by decide) k55 rfl rfl rfl (Nat.lt_of_lt_of_eq (by decide) len_R.symm) s_R_faultNow dX6_as_2 (fun M_1 H locs eM_1 hP hS => ?_)
  have hF := hF M_1 eM_1
  refine lv_aload_n hx hb dX6_as_5 rfl (lv_at hl 0 rfl) ?_
  refine gF S hK hP i6 e_R rfl 5 (by decide) k51 f_R_queue dX6_as_6 ?_
  refine lv_iload_n hx hb dX6_as_9 rfl (lv_at hl 1 rfl) ?_
  refine goZ (rV (rest := []) S hK hP (ctX3_has l D cI cJ ad had a1 _ _ hF) (cwV 1 hts gX6_as_X3_has rfl rfl rfl hdV_X3_has ⟨Nat.le_of_ble_eq_true rfl, Nat.le_of_ble_eq_true rfl⟩) e_Q rfl rfl hl.1 rfl (Nat.le_of_ble_eq_true rfl) dX6_as_10 ⟨Nat.zero_le _, Nat.zero_le _⟩) hS (fun _ h => h) (fun r_2 M_2 H locs hP hS hz_r_2 hF => ?_)
  refine lv_if_ne (tgt := 18) hx hb dX6_as_13 (by decide) (fun c_3 => ?_) (fun c_3 => ?_)
  · have hF := hF.2 c_3
    refine lv_iload_n hx hb dX6_as_18 rfl (lv_at hl 2 rfl) ?_
    refine lv_iconst (v := 0) hx hb dX6_as_19 (by decide) ?_
    refine lv_iconst (v := 2) hx hb dX6_as_20 (by decide) ?_
    refine goZ (rS (rest := []) S hK hP (ctX6_isWithin l D cI cJ ad had a2 (0 : Int32) (2 : Int32) _ _ hF) (va_cwS 3 hts gX6_as_X6_isWithin rfl rfl rfl hdS_X6_isWithin ⟨Nat.le_of_ble_eq_true rfl, Nat.le_of_ble_eq_true rfl⟩) rfl hl.1 rfl (Nat.le_of_ble_eq_true rfl) dX6_as_21 ⟨Nat.zero_le _, Nat.zero_le _⟩) hS (fun _ h => h) (fun r_4 M_4 H locs hP hS hz_r_4 hF => ?_)
    refine lv_if_ne (tgt := 30) hx hb dX6_as_24 (by decide) (fun c_5 => ?_) (fun c_5 => ?_)
    · have hF := hF.2 c_5
      refine lv_aload_n hx hb dX6_as_30 rfl (lv_at hl 0 rfl) ?_
      refine lv_iload_n hx hb dX6_as_31 rfl (lv_at hl 1 rfl) ?_
      refine lv_iload_n hx hb dX6_as_32 rfl (lv_at hl 2 rfl) ?_
      refine goZ (rV (rest := []) S hK hP (ctX6_isKind l D cI cJ ad had a1 a2 _ _ hF) (cwV 2 hts gX6_as_X6_isKind rfl rfl rfl hdV_X6_isKind ⟨Nat.le_of_ble_eq_true rfl, Nat.le_of_ble_eq_true rfl⟩) e_R rfl rfl hl.1 rfl (Nat.le_of_ble_eq_true rfl) dX6_as_33 ⟨Nat.zero_le _, Nat.zero_le _⟩) hS (fun _ h => h) (fun r_6 M_6 H locs hP hS hz_r_6 hF => ?_)
      refine lv_if_eq (tgt := 43) hx hb dX6_as_36 (by decide) (fun c_7 => ?_) (fun c_7 => ?_)
      · have hF := hF.1 c_7
        refine lv_aload_n hx hb dX6_as_43 rfl (lv_at hl 0 rfl) ?_
        refine lv_iconst (v := 2) hx hb dX6_as_44 (by decide) ?_
        refine goI (rV (rest := []) S hK hP (ctX6_faulted l D cI cJ ad had (2 : Int32) _ _ hF) (cwV 1 hts gX6_as_X6_faulted rfl rfl rfl hdV_X6_faulted ⟨Nat.le_of_ble_eq_true rfl, Nat.le_of_ble_eq_true rfl⟩) e_R rfl rfl hl.1 rfl (Nat.le_of_ble_eq_true rfl) dX6_as_45 ⟨Nat.zero_le _, Nat.zero_le _⟩) hS (fun _ h => h) (fun r_8 M_8 H locs hP hS hF => ?_)
        exact retI S hr hlocks hP hS hF dX6_as_48
      · have hF := hF.2 c_7
        refine lv_iconst (v := 1) hx hb dX6_as_39 (by decide) ?_
        refine lv_goto (tgt := 48) hx hb dX6_as_40 (by decide) ?_
        exact retI S hr hlocks hP hS hF dX6_as_48
    · have hF := hF.1 c_5
      refine lv_bipush (v := -2) hx hb dX6_as_27 (by decide) ?_
      exact retI S hr hlocks hP hS hF dX6_as_29
  · have hF := hF.1 c_3
    refine lv_iconst (v := -1) hx hb dX6_as_16 (by decide) ?_
    exact retI S hr hlocks hP hS hF dX6_as_17
def wX6_trace (Q : Int32 → Mm → Prop) (M : Mm) : Prop := (Q (gi M 1) M)
set_option maxHeartbeats 4000000 in
set_option maxRecDepth 100000 in
theorem ctX6_trace (l : Launch) (D : va_G) (cI cJ : ClassId) (ad : Nat → Nat) (had : inj54 ad)  (Q : Int32 → Mm → Prop) (M : Mm) (hF : wX6_trace Q M) : Met l yX6_trace wsX6_trace ({ frames := 0, cells := 0, slots := 0, locals := 0 } : Room) (PcW D cI cJ ad M [.ref (ad 0)]) (QiW D cI cJ ad Q) 0 0 (Fr ad) := by
  refine entW (y := yX6_trace) (ret := some .int) (maxL := 1) (plainFor_of_name (by decide)) rfl (Nat.le_of_ble_eq_true rfl) ?_
  intro p e s m args below meth c ls S hK hr hlocks hP hS hl
  have hx := S.1
  have hb := S.2.1
  have hown := S.2.2.2.1
  have hts := S.2.2.2.2
  have i6 : ∀ w ∈ wsX60, w ∈ wsX6_trace := by decide +kernel
  have k325 := hts (.fieldLink RX6 325 "RopeLine" "traceNow" "I") (by decide +kernel)
  have hl : lv_has ls 1 [(0, .ref (ad 0))] := hl
  unfold wX6_trace at hF
  refine lv_aload_n hx hb dX6_trace_0 rfl (lv_at hl 0 rfl) ?_
  refine gF S hK hP i6 e_R rfl 7 (by decide) k325 f_R_traceNow dX6_trace_1 ?_
  exact retI S hr hlocks hP hS hF dX6_trace_4
def wX6_fault (Q : Int32 → Mm → Prop) (M : Mm) : Prop := (Q (gi M 2) M)
set_option maxHeartbeats 4000000 in
set_option maxRecDepth 100000 in
theorem ctX6_fault (l : Launch) (D : va_G) (cI cJ : ClassId) (ad : Nat → Nat) (had : inj54 ad)  (Q : Int32 → Mm → Prop) (M : Mm) (hF : wX6_fault Q M) : Met l yX6_fault wsX6_fault ({ frames := 0, cells := 0, slots := 0, locals := 0 } : Room) (PcW D cI cJ ad M [.ref (ad 0)]) (QiW D cI cJ ad Q) 0 0 (Fr ad) := by
  refine entW (y := yX6_fault) (ret := some .int) (maxL := 1) (plainFor_of_name (by decide)) rfl (Nat.le_of_ble_eq_true rfl) ?_
  intro p e s m args below meth c ls S hK hr hlocks hP hS hl
  have hx := S.1
  have hb := S.2.1
  have hown := S.2.2.2.1
  have hts := S.2.2.2.2
  have i6 : ∀ w ∈ wsX60, w ∈ wsX6_fault := by decide +kernel
  have k55 := hts (.fieldLink RX6 55 "RopeLine" "faultNow" "I") (by decide +kernel)
  have hl : lv_has ls 1 [(0, .ref (ad 0))] := hl
  unfold wX6_fault at hF
  refine lv_aload_n hx hb dX6_fault_0 rfl (lv_at hl 0 rfl) ?_
  refine gF S hK hP i6 e_R rfl 8 (by decide) k55 f_R_faultNow dX6_fault_1 ?_
  exact retI S hr hlocks hP hS hF dX6_fault_4
def wX6_many (a1 : Int32) (Q : Int32 → Mm → Prop) (M : Mm) : Prop := ((a1 = 0 → (Q (gi M 14) M)) ∧ (¬ a1 = 0 → ((a1 = 1 → (Q (gi M 23) M)) ∧ (¬ a1 = 1 → ((a1 = 2 → (Q (gi M 24) M)) ∧ (¬ a1 = 2 → ((a1 = 3 → (wX3_done (fun r_5 M_5 => (Q r_5 M_5)) M)) ∧ (¬ a1 = 3 → ((a1 = 4 → (Q (gi M 25) M)) ∧ (¬ a1 = 4 → (Q (-2 : Int32) M)))))))))))
set_option maxHeartbeats 4000000 in
set_option maxRecDepth 100000 in
theorem ctX6_many (l : Launch) (D : va_G) (cI cJ : ClassId) (ad : Nat → Nat) (had : inj54 ad) (a1 : Int32) (Q : Int32 → Mm → Prop) (M : Mm) (hF : wX6_many a1 Q M) : Met l yX6_many wsX6_many ({ frames := 2, cells := 0, slots := 0, locals := 43 } : Room) (PcW D cI cJ ad M [.ref (ad 0), .int a1]) (QiW D cI cJ ad Q) 0 0 (Fr ad) := by
  refine entW (y := yX6_many) (ret := some .int) (maxL := 2) (plainFor_of_name (by decide)) rfl (Nat.le_of_ble_eq_true rfl) ?_
  intro p e s m args below meth c ls S hK hr hlocks hP hS hl
  have hx := S.1
  have hb := S.2.1
  have hown := S.2.2.2.1
  have hts := S.2.2.2.2
  have i6 : ∀ w ∈ wsX60, w ∈ wsX6_many := by decide +kernel
  have i2 : ∀ w ∈ wsX20, w ∈ wsX6_many := by decide +kernel
  have i3 : ∀ w ∈ wsX30, w ∈ wsX6_many := by decide +kernel
  have k30 := hts (.fieldLink RX6 30 "RopeLine" "here" "LRopeLine$Place;") (by decide +kernel)
  have k51 := hts (.fieldLink RX6 51 "RopeLine" "queue" "LRopeLine$Queue;") (by decide +kernel)
  have hl : lv_has ls 2 [(0, .ref (ad 0)), (1, .int a1)] := hl
  unfold wX6_many at hF
  refine lv_iload_n hx hb dX6_many_0 rfl (lv_at hl 1 rfl) ?_
  by_cases c_1 : a1 = 0
  · have hF := hF.1 c_1
    refine lv_tableIn (off := 35) (tgt := 36) hx hb dX6_many_1 (by rw [c_1]; decide) (by rw [c_1]; decide) (by rw [c_1]; rfl) (by decide) ?_
    refine lv_aload_n hx hb dX6_many_36 rfl (lv_at hl 0 rfl) ?_
    refine gF S hK hP i6 e_R rfl 2 (by decide) k30 f_R_here dX6_many_37 ?_
    refine gN S hK hP i2 e_P rfl 6 (by decide) nw_RX6_97 f_P_sorts dX6_many_40 ?_
    exact retI S hr hlocks hP hS hF dX6_many_43
  · have hF := hF.2 c_1
    by_cases c_2 : a1 = 1
    · have hF := hF.1 c_2
      refine lv_tableIn (off := 43) (tgt := 44) hx hb dX6_many_1 (by rw [c_2]; decide) (by rw [c_2]; decide) (by rw [c_2]; rfl) (by decide) ?_
      refine lv_aload_n hx hb dX6_many_44 rfl (lv_at hl 0 rfl) ?_
      refine gF S hK hP i6 e_R rfl 5 (by decide) k51 f_R_queue dX6_many_45 ?_
      refine gN S hK hP i3 e_Q rfl 6 (by decide) nw_RX6_328 f_Q_comers dX6_many_48 ?_
      exact retI S hr hlocks hP hS hF dX6_many_51
    · have hF := hF.2 c_2
      by_cases c_3 : a1 = 2
      · have hF := hF.1 c_3
        refine lv_tableIn (off := 51) (tgt := 52) hx hb dX6_many_1 (by rw [c_3]; decide) (by rw [c_3]; decide) (by rw [c_3]; rfl) (by decide) ?_
        refine lv_aload_n hx hb dX6_many_52 rfl (lv_at hl 0 rfl) ?_
        refine gF S hK hP i6 e_R rfl 5 (by decide) k51 f_R_queue dX6_many_53 ?_
        refine gN S hK hP i3 e_Q rfl 7 (by decide) nw_RX6_249 f_Q_standing dX6_many_56 ?_
        exact retI S hr hlocks hP hS hF dX6_many_59
      · have hF := hF.2 c_3
        by_cases c_4 : a1 = 3
        · have hF := hF.1 c_4
          refine lv_tableIn (off := 59) (tgt := 60) hx hb dX6_many_1 (by rw [c_4]; decide) (by rw [c_4]; decide) (by rw [c_4]; rfl) (by decide) ?_
          refine lv_aload_n hx hb dX6_many_60 rfl (lv_at hl 0 rfl) ?_
          refine gF S hK hP i6 e_R rfl 5 (by decide) k51 f_R_queue dX6_many_61 ?_
          refine goI (rV (rest := []) S hK hP (ctX3_done l D cI cJ ad had  _ _ hF) (cwV 0 hts gX6_many_X3_done rfl rfl rfl hdV_X3_done ⟨Nat.le_of_ble_eq_true rfl, Nat.le_of_ble_eq_true rfl⟩) e_Q rfl rfl hl.1 rfl (Nat.le_of_ble_eq_true rfl) dX6_many_64 ⟨Nat.zero_le _, Nat.zero_le _⟩) hS (fun _ h => h) (fun r_5 M_5 H locs hP hS hF => ?_)
          exact retI S hr hlocks hP hS hF dX6_many_67
        · have hF := hF.2 c_4
          by_cases c_6 : a1 = 4
          · have hF := hF.1 c_6
            refine lv_tableIn (off := 67) (tgt := 68) hx hb dX6_many_1 (by rw [c_6]; decide) (by rw [c_6]; decide) (by rw [c_6]; rfl) (by decide) ?_
            refine lv_aload_n hx hb dX6_many_68 rfl (lv_at hl 0 rfl) ?_
            refine gF S hK hP i6 e_R rfl 5 (by decide) k51 f_R_queue dX6_many_69 ?_
            refine gN S hK hP i3 e_Q rfl 8 (by decide) nw_RX6_262 f_Q_minutes dX6_many_72 ?_
            exact retI S hr hlocks hP hS hF dX6_many_75
          · have hF := hF.2 c_6
            refine lv_tableOut (tgt := 76) hx hb dX6_many_1 (by have q0 := lv_neT c_1 (k := 0) (a := 0) (by decide); have q1 := lv_neT c_2 (k := 1) (a := 1) (by decide); have q2 := lv_neT c_3 (k := 2) (a := 2) (by decide); have q3 := lv_neT c_4 (k := 3) (a := 3) (by decide); have q4 := lv_neT c_6 (k := 4) (a := 4) (by decide); omega) (by decide) ?_
            refine lv_bipush (v := -2) hx hb dX6_many_76 (by decide) ?_
            exact retI S hr hlocks hP hS hF dX6_many_78
