set_option maxRecDepth 100000 in
theorem nW_in : ∀ w ∈ nW, w ∈ lw_tbl := by
  have e : nW = ([82, 98, 100, 105, 107, 109, 111, 144, 145, 146, 148, 149, 150, 152, 154, 155, 157, 159, 160, 162, 163, 165, 167, 169, 199, 204, 206, 233, 235, 238, 240, 261, 263, 265, 267, 269, 271, 273, 275, 277, 76, 139, 193, 225, 230, 256, 333, 345, 373, 382, 387, 392, 393, 418, 456, 463, 476, 481, 488, 489, 496, 510, 555, 635, 636, 665] : List Nat).filterMap (fun i => lw_tbl[i]?) := by decide +kernel
  intro w hw
  rw [e] at hw
  obtain ⟨i, -, hi⟩ := List.mem_filterMap.mp hw
  exact List.mem_of_getElem? hi
theorem arr_word {A : Array Value} {U : State} {ty : FieldType} (h : (Cond.arrayClass ty).before A U = true) (hty : ∀ C, ty ≠ .object C) : ∃ cA : ClassId, ArrOfT U cA ty ∧ va_RA U cA ty := by
  obtain ⟨c, k, comp, h1, h2, h3⟩ := Cond.arrayClass_spec h
  refine ⟨c, fun N z => ⟨(fun k h => by cases h), k, h2, comp, h3⟩, ?_⟩
  cases ty with
  | object C => exact absurd rfl (hty C)
  | _ => exact h1
def adOf (q0 : Nat) (u1 : Nat → Nat) (qm : Nat) (u2 : Nat → Nat) : Nat → Nat := fun k => ((q0 :: [u1 0, u1 1, u1 2, u1 3, u1 4, u1 5, u1 6, u1 7, u1 8, u1 9, u1 10, u1 11, u1 12, u1 13, u1 14, u1 15, u1 16, u1 17, u1 18, u1 19, u1 20, u1 21, u1 22, u1 23, u1 24, u1 25, u1 26, u1 27, u1 28, u1 29, u1 30] ++ qm :: [u2 0, u2 1, u2 2, u2 3, u2 4, u2 5, u2 6, u2 7, u2 8, u2 9, u2 10, u2 11, u2 12, u2 13, u2 14, u2 15, u2 16, u2 17, u2 18, u2 19, u2 20])).getD k 0
set_option maxHeartbeats 40000000 in
set_option maxRecDepth 100000 in
theorem whole_start {p : Program} {e : Env} {s : State} {m : MethodId} {below : List Frame} {meth : Method} {c : Code} (l : Launch) (hflags : l.flags = flags0) {b L : Nat} {xs : Nat → Int32} (hL : L ≤ 2560) (C0 : lw_At p s m meth c b L xs) : W p l e room_1 s m #[Value.ref b] below meth c s.heap [] 0 0 (lw_Z below #[Value.ref b] s) (entryFrame m ([Value.ref b] : List Value).toArray 4) := by
  obtain ⟨hx, hb, hr, hml, hown, hts0, hX, hbl, hlocks, hgv⟩ := id C0
  have hts := hts0
  have S : CallFix p m c cL_law 4 s #[Value.ref b] lw_tbl RL := ⟨hx, hb, hml, hown, hts⟩
  have hA : ∀ q : Nat, s.heap.size ≤ q → (fun q : Nat => s.heap.size ≤ q) q := fun q h => h
  obtain ⟨c0, iS0, hKn0⟩ := u_known (C := RX0) (T := TX0) (N := 6) (n := 6) hts0 inX0 (hts0 (.instantiable RX0 6) (List.mem_of_getElem? (i := 224) (by decide +kernel)))
  obtain ⟨c1, iS1, hKn1⟩ := u_known (C := RX1) (T := TX1) (N := 7) (n := 7) hts0 inX1 (hts0 (.instantiable RX1 7) (List.mem_of_getElem? (i := 192) (by decide +kernel)))
  obtain ⟨c2, iS2, hKn2⟩ := u_known (C := RX2) (T := TX2) (N := 10) (n := 10) hts0 inX2 (hts0 (.instantiable RX2 10) (List.mem_of_getElem? (i := 138) (by decide +kernel)))
  obtain ⟨c3, iS3, hKn3⟩ := u_known (C := RX3) (T := TX3) (N := 9) (n := 9) hts0 inX3 (hts0 (.instantiable RX3 9) (List.mem_of_getElem? (i := 255) (by decide +kernel)))
  obtain ⟨c4, iS4, hKn4⟩ := u_known (C := RX4) (T := TX4) (N := 3) (n := 3) hts0 inX4 (hts0 (.instantiable RX4 3) (List.mem_of_getElem? (i := 71) (by decide +kernel)))
  obtain ⟨c5, iS5, hKn5⟩ := u_known (C := RX5) (T := TX5) (N := 11) (n := 11) hts0 inX5 (hts0 (.instantiable RX5 11) (List.mem_of_getElem? (i := 92) (by decide +kernel)))
  obtain ⟨c6, iS6, hKn6⟩ := u_known (C := RX6) (T := TX6) (N := 9) (n := 9) hts0 inX6 (hts0 (.instantiable RX6 9) (List.mem_of_getElem? (i := 63) (by decide +kernel)))
  obtain ⟨c7, iS7, hKn7⟩ := u_known (C := RX7) (T := TX7) (N := 40) (n := 40) hts0 inX7 (hts0 (.instantiable RX7 40) (List.mem_of_getElem? (i := 785) (by decide +kernel)))
  obtain ⟨D, hKc⟩ : ∃ D : va_G, ∀ (k : Nat) (q : vw_C), vwCl[k]? = some q → u_Kn s q.1 q.2.1 q.2.2 (D.1 k) (D.2 k) := by
    refine ⟨(fun k => [c0, c1, c2, c3, c4, c5, c6, c7].getD k 0, fun k => [iS0, iS1, iS2, iS3, iS4, iS5, iS6, iS7].getD k iS0), ?_⟩
    intro k q hq
    match k, hq with
    | 0, hq => cases hq; exact hKn0
    | 1, hq => cases hq; exact hKn1
    | 2, hq => cases hq; exact hKn2
    | 3, hq => cases hq; exact hKn3
    | 4, hq => cases hq; exact hKn4
    | 5, hq => cases hq; exact hKn5
    | 6, hq => cases hq; exact hKn6
    | 7, hq => cases hq; exact hKn7
    | k + 8, hq => simp [vwCl] at hq
  obtain ⟨cI, hI1, hI2⟩ := arr_word (ty := .int) (hts0 (.arrayClass .int) (List.mem_of_getElem? (i := 90) (by decide +kernel))) (fun C h => by cases h)
  obtain ⟨cJ, hJ1, hJ2⟩ := arr_word (ty := .long) (hts0 (.arrayClass .long) (List.mem_of_getElem? (i := 222) (by decide +kernel))) (fun C h => by cases h)
  have hK : KK D cI cJ s := by
    refine ⟨⟨hKc, fun k q hq => ?_⟩, fun w hw => va_Nw.of (nW_tab w hw) (hts0 w (nW_in w hw))⟩
    match k, hq with
    | 0, hq => cases hq; exact ⟨hI1, hI2⟩
    | 1, hq => cases hq; exact ⟨hJ1, hJ2⟩
    | k + 2, hq => simp at hq
  have hS : va_S (fun q : Nat => s.heap.size ≤ q) s.heap s.heap [] := va_S.rf
  have hP : va_P D vwCl [] s.heap := fun k q h => by simp at h
  have hD : va_D (fun q : Nat => s.heap.size ≤ q) [] := ⟨fun i j p q h => by simp at h, fun k q h => by simp at h⟩
  have hl := lv_entry ([.ref b]) (n := 4) (Nat.le_of_ble_eq_true rfl)
  rw [lg_entry_eq]
  generalize (lg_sl ([.ref b]) ++ List.replicate (4 - (lg_sl ([.ref b])).length) Slot.unset).toArray = ls at hl ⊢
  have hl : lv_has ls 4 [(0, .ref b)] := hl
  refine va_new (ci := 6) (fs := [.null, .null, .null, .null, .null, .null, .int 0, .int 0, .int 0]) (C := RX6) (T := TX6) (N := 9) hx hb hts0 inX6 tyX6 tyX6_ok hown (hts0 (.classLink RL 7 RX6) (List.mem_of_getElem? (i := 62) (by decide +kernel))) (hts0 (.instantiable RX6 9) (List.mem_of_getElem? (i := 63) (by decide +kernel))) (hts0 (.initialized RX6) (List.mem_of_getElem? (i := 53) (by decide +kernel))) hK.1 hP hD hS hA rfl (fun j hj => by rcases (show j = 0 ∨ j = 1 ∨ j = 2 ∨ j = 3 ∨ j = 4 ∨ j = 5 ∨ j = 6 ∨ j = 7 ∨ j = 8 by omega) with rfl | rfl | rfl | rfl | rfl | rfl | rfl | rfl | rfl <;> rfl) (Nat.le_of_ble_eq_true rfl) (Nat.le_of_ble_eq_true rfl) dL_law_0 (fun q0 H hP hD hS => ?_)
  have hP : va_P D vwCl [(q0, .inr (6, [.null, .null, .null, .null, .null, .null, .int 0, .int 0, .int 0]))] H := hP
  have hD : va_D (fun q : Nat => s.heap.size ≤ q) [(q0, .inr (6, [.null, .null, .null, .null, .null, .null, .int 0, .int 0, .int 0]))] := hD
  refine W.widen (k := 1) (n := 9) (by omega) (by omega) ?_
  refine lv_dup hx hb dL_law_3 rfl ?_
  refine goN (wr := []) (rI (rest := [.ref q0]) (As := []) S (preN (wc := [(q0, .inr (6, [.null, .null, .null, .null, .null, .null, .int 0, .int 0, .int 0]))]) hK hP hD [0] rfl (by decide)) (ciX6_init l D cI cJ q0 H.size) (cwI 0 hts gL_law_X6_init rfl rfl rfl (hts0 (.initialized RX6) (List.mem_of_getElem? (i := 53) (by decide +kernel))) (hts0 (.methodLink RL 9 yX6_init) (List.mem_of_getElem? (i := 64) (by decide +kernel))) (hts0 (.instanceMethod yX6_init) (List.mem_of_getElem? (i := 65) (by decide +kernel))) rfl hdS_X6_init ⟨Nat.le_of_ble_eq_true rfl, Nat.le_of_ble_eq_true rfl⟩) rfl hl.1 rfl (Nat.le_of_ble_eq_true rfl) dL_law_4 ⟨Nat.le_of_ble_eq_true rfl, Nat.le_of_ble_eq_true rfl⟩) hP hD hS hA [0] [] rfl rfl (by decide) (by decide) (fun u1 H locs hP hD hS => ?_)
  refine W.widen (k := 32) (n := 584) (Nat.le_of_ble_eq_true rfl) (Nat.le_of_ble_eq_true rfl) ?_
  have hP : va_P D vwCl (piX6_init cI cJ q0 u1) H := hP
  have hD : va_D (fun q : Nat => s.heap.size ≤ q) (piX6_init cI cJ q0 u1) := hD
  refine lv_astore_n (lv' := [(1, .ref q0), (0, .ref b)]) hx hb dL_law_7 rfl hl (by decide) rfl (fun ls hl => ?_)
  refine va_new (ci := 7) (fs := [.int 0, .int 0, .long 0, .long 0, .null, .null, .null, .int 0, .int 0, .int 0, .int 0, .null, .null, .null, .int 0, .int 0, .int 0, .int 0, .int 0, .int 0, .int 0, .int 0, .null, .null, .null, .null, .null, .null, .null, .null, .null, .null, .int 0, .int 0, .int 0, .null, .null, .null, .null, .null]) (C := RX7) (T := TX7) (N := 40) hx hb hts0 inX7 tyX7 tyX7_ok hown (hts0 (.classLink RL 10 RX7) (List.mem_of_getElem? (i := 784) (by decide +kernel))) (hts0 (.instantiable RX7 40) (List.mem_of_getElem? (i := 785) (by decide +kernel))) (hts0 (.initialized RX7) (List.mem_of_getElem? (i := 60) (by decide +kernel))) hK.1 hP hD hS hA rfl (fun j hj => by rcases (show j = 0 ∨ j = 1 ∨ j = 2 ∨ j = 3 ∨ j = 4 ∨ j = 5 ∨ j = 6 ∨ j = 7 ∨ j = 8 ∨ j = 9 ∨ j = 10 ∨ j = 11 ∨ j = 12 ∨ j = 13 ∨ j = 14 ∨ j = 15 ∨ j = 16 ∨ j = 17 ∨ j = 18 ∨ j = 19 ∨ j = 20 ∨ j = 21 ∨ j = 22 ∨ j = 23 ∨ j = 24 ∨ j = 25 ∨ j = 26 ∨ j = 27 ∨ j = 28 ∨ j = 29 ∨ j = 30 ∨ j = 31 ∨ j = 32 ∨ j = 33 ∨ j = 34 ∨ j = 35 ∨ j = 36 ∨ j = 37 ∨ j = 38 ∨ j = 39 by omega) with rfl | rfl | rfl | rfl | rfl | rfl | rfl | rfl | rfl | rfl | rfl | rfl | rfl | rfl | rfl | rfl | rfl | rfl | rfl | rfl | rfl | rfl | rfl | rfl | rfl | rfl | rfl | rfl | rfl | rfl | rfl | rfl | rfl | rfl | rfl | rfl | rfl | rfl | rfl | rfl <;> rfl) (Nat.le_of_ble_eq_true rfl) (Nat.le_of_ble_eq_true rfl) dL_law_8 (fun qm H hP hD hS => ?_)
  refine W.widen (k := 33) (n := 624) (Nat.le_of_ble_eq_true rfl) (Nat.le_of_ble_eq_true rfl) ?_
  refine lv_dup hx hb dL_law_11 rfl ?_
  refine goN (wr := (piX6_init cI cJ q0 u1)) (rI (rest := [.ref qm]) (As := []) S (preN (wc := [(qm, .inr (7, [.int 0, .int 0, .long 0, .long 0, .null, .null, .null, .int 0, .int 0, .int 0, .int 0, .null, .null, .null, .int 0, .int 0, .int 0, .int 0, .int 0, .int 0, .int 0, .int 0, .null, .null, .null, .null, .null, .null, .null, .null, .null, .null, .int 0, .int 0, .int 0, .null, .null, .null, .null, .null]))]) hK hP hD [32] rfl (by decide)) (ciX7_init l D cI cJ qm H.size) (cwI 0 hts gL_law_X7_init rfl rfl rfl (hts0 (.initialized RX7) (List.mem_of_getElem? (i := 60) (by decide +kernel))) (hts0 (.methodLink RL 12 yX7_init) (List.mem_of_getElem? (i := 786) (by decide +kernel))) (hts0 (.instanceMethod yX7_init) (List.mem_of_getElem? (i := 787) (by decide +kernel))) rfl hdS_X7_init ⟨Nat.le_of_ble_eq_true rfl, Nat.le_of_ble_eq_true rfl⟩) rfl hl.1 rfl (Nat.le_of_ble_eq_true rfl) dL_law_12 ⟨Nat.le_of_ble_eq_true rfl, Nat.le_of_ble_eq_true rfl⟩) hP hD hS hA [32] [0, 1, 2, 3, 4, 5, 6, 7, 8, 9, 10, 11, 12, 13, 14, 15, 16, 17, 18, 19, 20, 21, 22, 23, 24, 25, 26, 27, 28, 29, 30, 31] rfl rfl (by decide) (by decide) (fun u2 H locs hP hD hS => ?_)
  refine W.widen (k := 54) (n := 1141) (Nat.le_of_ble_eq_true rfl) (Nat.le_of_ble_eq_true rfl) ?_
  refine lv_astore_n (lv' := [(2, .ref qm), (1, .ref q0), (0, .ref b)]) hx hb dL_law_15 rfl hl (by decide) rfl (fun ls hl => ?_)
  refine lv_iconst (v := 0) hx hb dL_law_16 (by decide) ?_
  refine lv_istore_n (lv' := [(3, .int 0), (2, .ref qm), (1, .ref q0), (0, .ref b)]) hx hb dL_law_17 rfl hl (by decide) rfl (fun ls hl => ?_)
  have hP : va_P D vwCl (enc cI cJ (adOf q0 u1 qm u2) M0) H := hP
  have hD : va_D (fun q : Nat => s.heap.size ≤ q) (enc cI cJ (adOf q0 u1 qm u2) M0) := hD
  have hget : ∀ i, i < 54 → ∃ e, (enc cI cJ (adOf q0 u1 qm u2) M0)[i]? = some (adOf q0 u1 qm u2 i, e) := by
    intro i hi
    have hlen : (enc cI cJ (adOf q0 u1 qm u2) M0).length = 54 := rfl
    have h1 := List.getElem?_eq_getElem (l := enc cI cJ (adOf q0 u1 qm u2) M0) (i := i) (by rw [hlen]; exact hi)
    obtain ⟨-, h2⟩ := enc_fst h1
    exact ⟨((enc cI cJ (adOf q0 u1 qm u2) M0)[i]'(by rw [hlen]; exact hi)).2, by rw [h1, ← h2]⟩
  have had : inj54 (adOf q0 u1 qm u2) := fun i j hi hj h => by
    obtain ⟨e1, h1⟩ := hget i hi
    obtain ⟨e2, h2⟩ := hget j hj
    exact hD.1 i j _ _ h1 h2 h
  have hFA : ∀ q, Fr (adOf q0 u1 qm u2) q → s.heap.size ≤ q := fun q h => by
    obtain ⟨k, hk, rfl⟩ := h
    obtain ⟨e1, h1⟩ := hget k hk
    exact hD.2 k _ h1
  exact law_loop C0 hK had hFA 0 M0 (law_ok hL) H _ _ hP hS (lv_sub hl [3, 2, 1, 0] rfl)
