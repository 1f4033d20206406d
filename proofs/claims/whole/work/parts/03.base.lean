/-! the registers of the one world (both systems): ints, longs, rows of ints, rows of longs -/
abbrev Mm : Type := (Nat → Int32) × (Nat → Int64) × (Nat → Nat → Int32) × (Nat → Nat → Int64)
def gi (M : Mm) (k : Nat) : Int32 := M.1 k
def gj (M : Mm) (k : Nat) : Int64 := M.2.1 k
def ga (M : Mm) (k : Nat) : Nat → Int32 := M.2.2.1 k
def gb (M : Mm) (k : Nat) : Nat → Int64 := M.2.2.2 k
def si (M : Mm) (k : Nat) (v : Int32) : Mm := (fun j => if j = k then v else M.1 j, M.2)
def sj (M : Mm) (k : Nat) (v : Int64) : Mm := (M.1, fun j => if j = k then v else M.2.1 j, M.2.2)
def sa (M : Mm) (k : Nat) (f : Nat → Int32) : Mm := (M.1, M.2.1, fun j => if j = k then f else M.2.2.1 j, M.2.2.2)
def sb (M : Mm) (k : Nat) (f : Nat → Int64) : Mm := (M.1, M.2.1, M.2.2.1, fun j => if j = k then f else M.2.2.2 j)
theorem gi_si (M : Mm) (k j : Nat) (v : Int32) : gi (si M k v) j = if j = k then v else gi M j := rfl
theorem gi_sj (M : Mm) (k j : Nat) (v : Int64) : gi (sj M k v) j = gi M j := rfl
theorem gi_sa (M : Mm) (k j : Nat) (f : Nat → Int32) : gi (sa M k f) j = gi M j := rfl
theorem gi_sb (M : Mm) (k j : Nat) (f : Nat → Int64) : gi (sb M k f) j = gi M j := rfl
theorem gj_si (M : Mm) (k j : Nat) (v : Int32) : gj (si M k v) j = gj M j := rfl
theorem gj_sj (M : Mm) (k j : Nat) (v : Int64) : gj (sj M k v) j = if j = k then v else gj M j := rfl
theorem gj_sa (M : Mm) (k j : Nat) (f : Nat → Int32) : gj (sa M k f) j = gj M j := rfl
theorem gj_sb (M : Mm) (k j : Nat) (f : Nat → Int64) : gj (sb M k f) j = gj M j := rfl
theorem ga_si (M : Mm) (k j : Nat) (v : Int32) : ga (si M k v) j = ga M j := rfl
theorem ga_sj (M : Mm) (k j : Nat) (v : Int64) : ga (sj M k v) j = ga M j := rfl
theorem ga_sa (M : Mm) (k j : Nat) (f : Nat → Int32) : ga (sa M k f) j = if j = k then f else ga M j := rfl
theorem ga_sb (M : Mm) (k j : Nat) (f : Nat → Int64) : ga (sb M k f) j = ga M j := rfl
theorem gb_si (M : Mm) (k j : Nat) (v : Int32) : gb (si M k v) j = gb M j := rfl
theorem gb_sj (M : Mm) (k j : Nat) (v : Int64) : gb (sj M k v) j = gb M j := rfl
theorem gb_sa (M : Mm) (k j : Nat) (f : Nat → Int32) : gb (sa M k f) j = gb M j := rfl
theorem gb_sb (M : Mm) (k j : Nat) (f : Nat → Int64) : gb (sb M k f) j = if j = k then f else gb M j := rfl
def updJ (f : Nat → Int64) (k : Nat) (x : Int64) : Nat → Int64 := fun j => if j = k then x else f j
/-- kinds of the cells: 0 an object, 1 a row of ints, 2 a row of longs; and the rows' lengths -/
def kdL : List Nat := [0, 0, 0, 0, 0, 0, 0, 0, 1, 1, 1, 1, 1, 1, 1, 1, 1, 2, 2, 2, 1, 2, 2, 2, 1, 1, 1, 1, 1, 1, 1, 1, 0, 1, 1, 1, 1, 1, 1, 1, 1, 1, 2, 2, 2, 2, 2, 1, 1, 1, 1, 1, 1, 1]
def lnL : List Nat := [0, 0, 0, 0, 0, 0, 0, 0, 4, 4, 240, 3, 3, 3, 3, 3, 6, 6, 6, 6, 6, 6, 6, 6, 3, 3, 40, 40, 40, 40, 40, 5, 0, 4, 4, 240, 3, 3, 3, 3, 3, 8, 8, 8, 8, 8, 8, 3, 3, 40, 40, 40, 40, 40]
def isA (k : Nat) : Bool := kdL.getD k 0 == 1
def isB (k : Nat) : Bool := kdL.getD k 0 == 2
def lenA (k : Nat) : Nat := lnL.getD k 0
def oR (ad : Nat → Nat) (M : Mm) : List Value := [.ref (ad 1), .ref (ad 2), .ref (ad 3), .ref (ad 4), .ref (ad 5), .ref (ad 6), .int (gi M 0), .int (gi M 1), .int (gi M 2)]
def oS (ad : Nat → Nat) (M : Mm) : List Value := [.ref (ad 8), .ref (ad 9), .ref (ad 10)]
def oT (ad : Nat → Nat) (M : Mm) : List Value := [.ref (ad 11), .ref (ad 12), .ref (ad 1), .int (gi M 3), .int (gi M 4), .int (gi M 5), .int (gi M 6), .int (gi M 7), .int (gi M 8), .int (gi M 9), .int (gi M 10)]
def oP (ad : Nat → Nat) (M : Mm) : List Value := [.ref (ad 13), .ref (ad 14), .ref (ad 15), .int (gi M 11), .int (gi M 12), .int (gi M 13), .int (gi M 14), .int (gi M 15), .int (gi M 16), .int (gi M 17)]
def oL (o : Nat) (ad : Nat → Nat) (M : Mm) : List Value := [.ref (ad (16+4*o)), .ref (ad (17+4*o)), .ref (ad (18+4*o)), .ref (ad (19+4*o)), .int (gi M (18+2*o)), .int (gi M (19+2*o)), .long (gj M o)]
def oG (ad : Nat → Nat) (M : Mm) : List Value := [.ref (ad 7), .ref (ad 24), .ref (ad 25), .int (gi M 22), .long (gj M 2), .long (gj M 3)]
def oQ (ad : Nat → Nat) (M : Mm) : List Value := [.ref (ad 26), .ref (ad 27), .ref (ad 28), .ref (ad 29), .ref (ad 30), .ref (ad 31), .int (gi M 23), .int (gi M 24), .int (gi M 25)]
def oM (ad : Nat → Nat) (M : Mm) : List Value := [.int (gi M 26), .int (gi M 27), .long (gj M 4), .long (gj M 5), .ref (ad 33), .ref (ad 34), .ref (ad 35), .int (gi M 28), .int (gi M 29), .int (gi M 30), .int (gi M 31), .ref (ad 36), .ref (ad 37), .ref (ad 38), .int (gi M 32), .int (gi M 33), .int (gi M 34), .int (gi M 35), .int (gi M 36), .int (gi M 37), .int (gi M 38), .int (gi M 39), .ref (ad 39), .ref (ad 40), .ref (ad 41), .ref (ad 42), .ref (ad 43), .ref (ad 44), .ref (ad 45), .ref (ad 46), .ref (ad 47), .ref (ad 48), .int (gi M 40), .int (gi M 41), .int (gi M 42), .ref (ad 49), .ref (ad 50), .ref (ad 51), .ref (ad 52), .ref (ad 53)]
/-- the whole world: its cells, by their places -/
def enc (cI cJ : ClassId) (ad : Nat → Nat) (M : Mm) : va_W := [(ad 0, .inr (6, oR ad M)), (ad 1, .inr (4, oS ad M)), (ad 2, .inr (5, oT ad M)), (ad 3, .inr (2, oP ad M)), (ad 4, .inr (1, oL 0 ad M)), (ad 5, .inr (0, oG ad M)), (ad 6, .inr (3, oQ ad M)), (ad 7, .inr (1, oL 1 ad M)), (ad 8, .inl (cI, 4, .inl (ga M 8))), (ad 9, .inl (cI, 4, .inl (ga M 9))), (ad 10, .inl (cI, 240, .inl (ga M 10))), (ad 11, .inl (cI, 3, .inl (ga M 11))), (ad 12, .inl (cI, 3, .inl (ga M 12))), (ad 13, .inl (cI, 3, .inl (ga M 13))), (ad 14, .inl (cI, 3, .inl (ga M 14))), (ad 15, .inl (cI, 3, .inl (ga M 15))), (ad 16, .inl (cI, 6, .inl (ga M 16))), (ad 17, .inl (cJ, 6, .inr (.inl (gb M 17)))), (ad 18, .inl (cJ, 6, .inr (.inl (gb M 18)))), (ad 19, .inl (cJ, 6, .inr (.inl (gb M 19)))), (ad 20, .inl (cI, 6, .inl (ga M 20))), (ad 21, .inl (cJ, 6, .inr (.inl (gb M 21)))), (ad 22, .inl (cJ, 6, .inr (.inl (gb M 22)))), (ad 23, .inl (cJ, 6, .inr (.inl (gb M 23)))), (ad 24, .inl (cI, 3, .inl (ga M 24))), (ad 25, .inl (cI, 3, .inl (ga M 25))), (ad 26, .inl (cI, 40, .inl (ga M 26))), (ad 27, .inl (cI, 40, .inl (ga M 27))), (ad 28, .inl (cI, 40, .inl (ga M 28))), (ad 29, .inl (cI, 40, .inl (ga M 29))), (ad 30, .inl (cI, 40, .inl (ga M 30))), (ad 31, .inl (cI, 5, .inl (ga M 31))), (ad 32, .inr (7, oM ad M)), (ad 33, .inl (cI, 4, .inl (ga M 33))), (ad 34, .inl (cI, 4, .inl (ga M 34))), (ad 35, .inl (cI, 240, .inl (ga M 35))), (ad 36, .inl (cI, 3, .inl (ga M 36))), (ad 37, .inl (cI, 3, .inl (ga M 37))), (ad 38, .inl (cI, 3, .inl (ga M 38))), (ad 39, .inl (cI, 3, .inl (ga M 39))), (ad 40, .inl (cI, 3, .inl (ga M 40))), (ad 41, .inl (cI, 8, .inl (ga M 41))), (ad 42, .inl (cJ, 8, .inr (.inl (gb M 42)))), (ad 43, .inl (cJ, 8, .inr (.inl (gb M 43)))), (ad 44, .inl (cJ, 8, .inr (.inl (gb M 44)))), (ad 45, .inl (cJ, 8, .inr (.inl (gb M 45)))), (ad 46, .inl (cJ, 8, .inr (.inl (gb M 46)))), (ad 47, .inl (cI, 3, .inl (ga M 47))), (ad 48, .inl (cI, 3, .inl (ga M 48))), (ad 49, .inl (cI, 40, .inl (ga M 49))), (ad 50, .inl (cI, 40, .inl (ga M 50))), (ad 51, .inl (cI, 40, .inl (ga M 51))), (ad 52, .inl (cI, 40, .inl (ga M 52))), (ad 53, .inl (cI, 40, .inl (ga M 53)))]
def Fr (ad : Nat → Nat) : Nat → Prop := fun q => ∃ k, k < 54 ∧ q = ad k
def inj54 (ad : Nat → Nat) : Prop := ∀ i j, i < 54 → j < 54 → ad i = ad j → i = j
theorem enc_fst {cI cJ : ClassId} {ad : Nat → Nat} {M : Mm} {k : Nat} {q : Nat × va_E} (h : (enc cI cJ ad M)[k]? = some q) : k < 54 ∧ q.1 = ad k := by
  have e : (enc cI cJ ad M).map Prod.fst = (List.range 54).map ad := rfl
  have h1 : ((enc cI cJ ad M).map Prod.fst)[k]? = some q.1 := by rw [List.getElem?_map, h]; rfl
  rw [e, List.getElem?_map] at h1
  by_cases hk : k < 54
  · rw [List.getElem?_range hk] at h1
    exact ⟨hk, (Option.some.inj h1).symm⟩
  · rw [List.getElem?_eq_none (by simp; omega)] at h1
    cases h1
theorem enc_D {cI cJ : ClassId} {ad : Nat → Nat} (had : inj54 ad) (M : Mm) : va_D (Fr ad) (enc cI cJ ad M) := by
  refine ⟨fun i j p q hp hq h => ?_, fun k q hq => ?_⟩
  · obtain ⟨h1, h2⟩ := enc_fst hp
    obtain ⟨h3, h4⟩ := enc_fst hq
    exact had i j h1 h3 (by rw [← h2, ← h4]; exact h)
  · obtain ⟨h1, h2⟩ := enc_fst hq
    exact ⟨k, h1, h2⟩
theorem e_R {cI cJ : ClassId} {ad : Nat → Nat} {M : Mm} : (enc cI cJ ad M)[0]? = some (ad 0, .inr (6, oR ad M)) := rfl
theorem f_R_sheets {ad : Nat → Nat} {M : Mm} : (oR ad M)[0]? = some (.ref (ad 1)) := rfl
theorem f_R_text {ad : Nat → Nat} {M : Mm} : (oR ad M)[1]? = some (.ref (ad 2)) := rfl
theorem f_R_here {ad : Nat → Nat} {M : Mm} : (oR ad M)[2]? = some (.ref (ad 3)) := rfl
theorem f_R_lengths {ad : Nat → Nat} {M : Mm} : (oR ad M)[3]? = some (.ref (ad 4)) := rfl
theorem f_R_gains {ad : Nat → Nat} {M : Mm} : (oR ad M)[4]? = some (.ref (ad 5)) := rfl
theorem f_R_queue {ad : Nat → Nat} {M : Mm} : (oR ad M)[5]? = some (.ref (ad 6)) := rfl
theorem f_R_orderNow {ad : Nat → Nat} {M : Mm} : (oR ad M)[6]? = some (.int (gi M 0)) := rfl
theorem f_R_traceNow {ad : Nat → Nat} {M : Mm} : (oR ad M)[7]? = some (.int (gi M 1)) := rfl
theorem f_R_faultNow {ad : Nat → Nat} {M : Mm} : (oR ad M)[8]? = some (.int (gi M 2)) := rfl
theorem len_R {ad : Nat → Nat} {M : Mm} : (oR ad M).length = 9 := rfl
theorem s_R_orderNow {cI cJ : ClassId} {ad : Nat → Nat} {M : Mm} {v : Int32} : (enc cI cJ ad M).set 0 (ad 0, .inr (6, (oR ad M).set 6 (.int v))) = enc cI cJ ad (si M 0 v) := rfl
theorem s_R_traceNow {cI cJ : ClassId} {ad : Nat → Nat} {M : Mm} {v : Int32} : (enc cI cJ ad M).set 0 (ad 0, .inr (6, (oR ad M).set 7 (.int v))) = enc cI cJ ad (si M 1 v) := rfl
theorem s_R_faultNow {cI cJ : ClassId} {ad : Nat → Nat} {M : Mm} {v : Int32} : (enc cI cJ ad M).set 0 (ad 0, .inr (6, (oR ad M).set 8 (.int v))) = enc cI cJ ad (si M 2 v) := rfl
theorem e_S {cI cJ : ClassId} {ad : Nat → Nat} {M : Mm} : (enc cI cJ ad M)[1]? = some (ad 1, .inr (4, oS ad M)) := rfl
theorem f_S_lanes {ad : Nat → Nat} {M : Mm} : (oS ad M)[0]? = some (.ref (ad 8)) := rfl
theorem f_S_sizes {ad : Nat → Nat} {M : Mm} : (oS ad M)[1]? = some (.ref (ad 9)) := rfl
theorem f_S_cells {ad : Nat → Nat} {M : Mm} : (oS ad M)[2]? = some (.ref (ad 10)) := rfl
theorem len_S {ad : Nat → Nat} {M : Mm} : (oS ad M).length = 3 := rfl
theorem e_T {cI cJ : ClassId} {ad : Nat → Nat} {M : Mm} : (enc cI cJ ad M)[2]? = some (ad 2, .inr (5, oT ad M)) := rfl
theorem f_T_twelfths {ad : Nat → Nat} {M : Mm} : (oT ad M)[0]? = some (.ref (ad 11)) := rfl
theorem f_T_worths {ad : Nat → Nat} {M : Mm} : (oT ad M)[1]? = some (.ref (ad 12)) := rfl
theorem f_T_sheets {ad : Nat → Nat} {M : Mm} : (oT ad M)[2]? = some (.ref (ad 1)) := rfl
theorem f_T_start {ad : Nat → Nat} {M : Mm} : (oT ad M)[3]? = some (.int (gi M 3)) := rfl
theorem f_T_codes {ad : Nat → Nat} {M : Mm} : (oT ad M)[4]? = some (.int (gi M 4)) := rfl
theorem f_T_next {ad : Nat → Nat} {M : Mm} : (oT ad M)[5]? = some (.int (gi M 5)) := rfl
theorem f_T_number {ad : Nat → Nat} {M : Mm} : (oT ad M)[6]? = some (.int (gi M 6)) := rfl
theorem f_T_served {ad : Nat → Nat} {M : Mm} : (oT ad M)[7]? = some (.int (gi M 7)) := rfl
theorem f_T_cost {ad : Nat → Nat} {M : Mm} : (oT ad M)[8]? = some (.int (gi M 8)) := rfl
theorem f_T_sorts {ad : Nat → Nat} {M : Mm} : (oT ad M)[9]? = some (.int (gi M 9)) := rfl
theorem f_T_left {ad : Nat → Nat} {M : Mm} : (oT ad M)[10]? = some (.int (gi M 10)) := rfl
theorem len_T {ad : Nat → Nat} {M : Mm} : (oT ad M).length = 11 := rfl
theorem s_T_start {cI cJ : ClassId} {ad : Nat → Nat} {M : Mm} {v : Int32} : (enc cI cJ ad M).set 2 (ad 2, .inr (5, (oT ad M).set 3 (.int v))) = enc cI cJ ad (si M 3 v) := rfl
theorem s_T_codes {cI cJ : ClassId} {ad : Nat → Nat} {M : Mm} {v : Int32} : (enc cI cJ ad M).set 2 (ad 2, .inr (5, (oT ad M).set 4 (.int v))) = enc cI cJ ad (si M 4 v) := rfl
theorem s_T_next {cI cJ : ClassId} {ad : Nat → Nat} {M : Mm} {v : Int32} : (enc cI cJ ad M).set 2 (ad 2, .inr (5, (oT ad M).set 5 (.int v))) = enc cI cJ ad (si M 5 v) := rfl
theorem s_T_number {cI cJ : ClassId} {ad : Nat → Nat} {M : Mm} {v : Int32} : (enc cI cJ ad M).set 2 (ad 2, .inr (5, (oT ad M).set 6 (.int v))) = enc cI cJ ad (si M 6 v) := rfl
theorem s_T_served {cI cJ : ClassId} {ad : Nat → Nat} {M : Mm} {v : Int32} : (enc cI cJ ad M).set 2 (ad 2, .inr (5, (oT ad M).set 7 (.int v))) = enc cI cJ ad (si M 7 v) := rfl
theorem s_T_cost {cI cJ : ClassId} {ad : Nat → Nat} {M : Mm} {v : Int32} : (enc cI cJ ad M).set 2 (ad 2, .inr (5, (oT ad M).set 8 (.int v))) = enc cI cJ ad (si M 8 v) := rfl
theorem s_T_sorts {cI cJ : ClassId} {ad : Nat → Nat} {M : Mm} {v : Int32} : (enc cI cJ ad M).set 2 (ad 2, .inr (5, (oT ad M).set 9 (.int v))) = enc cI cJ ad (si M 9 v) := rfl
theorem s_T_left {cI cJ : ClassId} {ad : Nat → Nat} {M : Mm} {v : Int32} : (enc cI cJ ad M).set 2 (ad 2, .inr (5, (oT ad M).set 10 (.int v))) = enc cI cJ ad (si M 10 v) := rfl
theorem e_P {cI cJ : ClassId} {ad : Nat → Nat} {M : Mm} : (enc cI cJ ad M)[3]? = some (ad 3, .inr (2, oP ad M)) := rfl
theorem f_P_twelfths {ad : Nat → Nat} {M : Mm} : (oP ad M)[0]? = some (.ref (ad 13)) := rfl
theorem f_P_worths {ad : Nat → Nat} {M : Mm} : (oP ad M)[1]? = some (.ref (ad 14)) := rfl
theorem f_P_bars {ad : Nat → Nat} {M : Mm} : (oP ad M)[2]? = some (.ref (ad 15)) := rfl
theorem f_P_isTold {ad : Nat → Nat} {M : Mm} : (oP ad M)[3]? = some (.int (gi M 11)) := rfl
theorem f_P_served {ad : Nat → Nat} {M : Mm} : (oP ad M)[4]? = some (.int (gi M 12)) := rfl
theorem f_P_cost {ad : Nat → Nat} {M : Mm} : (oP ad M)[5]? = some (.int (gi M 13)) := rfl
theorem f_P_sorts {ad : Nat → Nat} {M : Mm} : (oP ad M)[6]? = some (.int (gi M 14)) := rfl
theorem f_P_toll {ad : Nat → Nat} {M : Mm} : (oP ad M)[7]? = some (.int (gi M 15)) := rfl
theorem f_P_step {ad : Nat → Nat} {M : Mm} : (oP ad M)[8]? = some (.int (gi M 16)) := rfl
theorem f_P_lie {ad : Nat → Nat} {M : Mm} : (oP ad M)[9]? = some (.int (gi M 17)) := rfl
theorem len_P {ad : Nat → Nat} {M : Mm} : (oP ad M).length = 10 := rfl
theorem s_P_isTold {cI cJ : ClassId} {ad : Nat → Nat} {M : Mm} {v : Int32} : (enc cI cJ ad M).set 3 (ad 3, .inr (2, (oP ad M).set 3 (.int v))) = enc cI cJ ad (si M 11 v) := rfl
theorem s_P_served {cI cJ : ClassId} {ad : Nat → Nat} {M : Mm} {v : Int32} : (enc cI cJ ad M).set 3 (ad 3, .inr (2, (oP ad M).set 4 (.int v))) = enc cI cJ ad (si M 12 v) := rfl
theorem s_P_cost {cI cJ : ClassId} {ad : Nat → Nat} {M : Mm} {v : Int32} : (enc cI cJ ad M).set 3 (ad 3, .inr (2, (oP ad M).set 5 (.int v))) = enc cI cJ ad (si M 13 v) := rfl
theorem s_P_sorts {cI cJ : ClassId} {ad : Nat → Nat} {M : Mm} {v : Int32} : (enc cI cJ ad M).set 3 (ad 3, .inr (2, (oP ad M).set 6 (.int v))) = enc cI cJ ad (si M 14 v) := rfl
theorem s_P_toll {cI cJ : ClassId} {ad : Nat → Nat} {M : Mm} {v : Int32} : (enc cI cJ ad M).set 3 (ad 3, .inr (2, (oP ad M).set 7 (.int v))) = enc cI cJ ad (si M 15 v) := rfl
theorem s_P_step {cI cJ : ClassId} {ad : Nat → Nat} {M : Mm} {v : Int32} : (enc cI cJ ad M).set 3 (ad 3, .inr (2, (oP ad M).set 8 (.int v))) = enc cI cJ ad (si M 16 v) := rfl
theorem s_P_lie {cI cJ : ClassId} {ad : Nat → Nat} {M : Mm} {v : Int32} : (enc cI cJ ad M).set 3 (ad 3, .inr (2, (oP ad M).set 9 (.int v))) = enc cI cJ ad (si M 17 v) := rfl
theorem e_L {cI cJ : ClassId} {ad : Nat → Nat} {M : Mm} {o : Nat} (ho : o < 2) : (enc cI cJ ad M)[4+3*o]? = some (ad (4+3*o), .inr (1, oL o ad M)) := by
  match o, ho with
  | 0, _ => rfl
  | 1, _ => rfl
theorem f_L_joining {ad : Nat → Nat} {M : Mm} {o : Nat} : (oL o ad M)[0]? = some (.ref (ad (16+4*o))) := rfl
theorem f_L_weights {ad : Nat → Nat} {M : Mm} {o : Nat} : (oL o ad M)[1]? = some (.ref (ad (17+4*o))) := rfl
theorem f_L_now {ad : Nat → Nat} {M : Mm} {o : Nat} : (oL o ad M)[2]? = some (.ref (ad (18+4*o))) := rfl
theorem f_L_then {ad : Nat → Nat} {M : Mm} {o : Nat} : (oL o ad M)[3]? = some (.ref (ad (19+4*o))) := rfl
theorem f_L_served {ad : Nat → Nat} {M : Mm} {o : Nat} : (oL o ad M)[4]? = some (.int (gi M (18+2*o))) := rfl
theorem f_L_whole {ad : Nat → Nat} {M : Mm} {o : Nat} : (oL o ad M)[5]? = some (.int (gi M (19+2*o))) := rfl
theorem f_L_total {ad : Nat → Nat} {M : Mm} {o : Nat} : (oL o ad M)[6]? = some (.long (gj M o)) := rfl
theorem len_L {ad : Nat → Nat} {M : Mm} {o : Nat} : (oL o ad M).length = 7 := rfl
theorem s_L_served {cI cJ : ClassId} {ad : Nat → Nat} {M : Mm} {v : Int32} {o : Nat} (ho : o < 2) : (enc cI cJ ad M).set (4+3*o) (ad (4+3*o), .inr (1, (oL o ad M).set 4 (.int v))) = enc cI cJ ad (si M (18+2*o) v) := by
  match o, ho with
  | 0, _ => rfl
  | 1, _ => rfl
theorem s_L_whole {cI cJ : ClassId} {ad : Nat → Nat} {M : Mm} {v : Int32} {o : Nat} (ho : o < 2) : (enc cI cJ ad M).set (4+3*o) (ad (4+3*o), .inr (1, (oL o ad M).set 5 (.int v))) = enc cI cJ ad (si M (19+2*o) v) := by
  match o, ho with
  | 0, _ => rfl
  | 1, _ => rfl
theorem s_L_total {cI cJ : ClassId} {ad : Nat → Nat} {M : Mm} {v : Int64} {o : Nat} (ho : o < 2) : (enc cI cJ ad M).set (4+3*o) (ad (4+3*o), .inr (1, (oL o ad M).set 6 (.long v))) = enc cI cJ ad (sj M o v) := by
  match o, ho with
  | 0, _ => rfl
  | 1, _ => rfl
theorem e_G {cI cJ : ClassId} {ad : Nat → Nat} {M : Mm} : (enc cI cJ ad M)[5]? = some (ad 5, .inr (0, oG ad M)) := rfl
theorem f_G_lengths {ad : Nat → Nat} {M : Mm} : (oG ad M)[0]? = some (.ref (ad 7)) := rfl
theorem f_G_row {ad : Nat → Nat} {M : Mm} : (oG ad M)[1]? = some (.ref (ad 24)) := rfl
theorem f_G_bestRow {ad : Nat → Nat} {M : Mm} : (oG ad M)[2]? = some (.ref (ad 25)) := rfl
theorem f_G_knowsBest {ad : Nat → Nat} {M : Mm} : (oG ad M)[3]? = some (.int (gi M 22)) := rfl
theorem f_G_upper {ad : Nat → Nat} {M : Mm} : (oG ad M)[4]? = some (.long (gj M 2)) := rfl
theorem f_G_lower {ad : Nat → Nat} {M : Mm} : (oG ad M)[5]? = some (.long (gj M 3)) := rfl
theorem len_G {ad : Nat → Nat} {M : Mm} : (oG ad M).length = 6 := rfl
theorem s_G_knowsBest {cI cJ : ClassId} {ad : Nat → Nat} {M : Mm} {v : Int32} : (enc cI cJ ad M).set 5 (ad 5, .inr (0, (oG ad M).set 3 (.int v))) = enc cI cJ ad (si M 22 v) := rfl
theorem s_G_upper {cI cJ : ClassId} {ad : Nat → Nat} {M : Mm} {v : Int64} : (enc cI cJ ad M).set 5 (ad 5, .inr (0, (oG ad M).set 4 (.long v))) = enc cI cJ ad (sj M 2 v) := rfl
theorem s_G_lower {cI cJ : ClassId} {ad : Nat → Nat} {M : Mm} {v : Int64} : (enc cI cJ ad M).set 5 (ad 5, .inr (0, (oG ad M).set 5 (.long v))) = enc cI cJ ad (sj M 3 v) := rfl
theorem e_Q {cI cJ : ClassId} {ad : Nat → Nat} {M : Mm} : (enc cI cJ ad M)[6]? = some (ad 6, .inr (3, oQ ad M)) := rfl
theorem f_Q_kinds {ad : Nat → Nat} {M : Mm} : (oQ ad M)[0]? = some (.ref (ad 26)) := rfl
theorem f_Q_sorts {ad : Nat → Nat} {M : Mm} : (oQ ad M)[1]? = some (.ref (ad 27)) := rfl
theorem f_Q_waited {ad : Nat → Nat} {M : Mm} : (oQ ad M)[2]? = some (.ref (ad 28)) := rfl
theorem f_Q_cameIn {ad : Nat → Nat} {M : Mm} : (oQ ad M)[3]? = some (.ref (ad 29)) := rfl
theorem f_Q_servedIn {ad : Nat → Nat} {M : Mm} : (oQ ad M)[4]? = some (.ref (ad 30)) := rfl
theorem f_Q_row {ad : Nat → Nat} {M : Mm} : (oQ ad M)[5]? = some (.ref (ad 31)) := rfl
theorem f_Q_comers {ad : Nat → Nat} {M : Mm} : (oQ ad M)[6]? = some (.int (gi M 23)) := rfl
theorem f_Q_standing {ad : Nat → Nat} {M : Mm} : (oQ ad M)[7]? = some (.int (gi M 24)) := rfl
theorem f_Q_minutes {ad : Nat → Nat} {M : Mm} : (oQ ad M)[8]? = some (.int (gi M 25)) := rfl
theorem len_Q {ad : Nat → Nat} {M : Mm} : (oQ ad M).length = 9 := rfl
theorem s_Q_comers {cI cJ : ClassId} {ad : Nat → Nat} {M : Mm} {v : Int32} : (enc cI cJ ad M).set 6 (ad 6, .inr (3, (oQ ad M).set 6 (.int v))) = enc cI cJ ad (si M 23 v) := rfl
theorem s_Q_standing {cI cJ : ClassId} {ad : Nat → Nat} {M : Mm} {v : Int32} : (enc cI cJ ad M).set 6 (ad 6, .inr (3, (oQ ad M).set 7 (.int v))) = enc cI cJ ad (si M 24 v) := rfl
theorem s_Q_minutes {cI cJ : ClassId} {ad : Nat → Nat} {M : Mm} {v : Int32} : (enc cI cJ ad M).set 6 (ad 6, .inr (3, (oQ ad M).set 8 (.int v))) = enc cI cJ ad (si M 25 v) := rfl
theorem e_M {cI cJ : ClassId} {ad : Nat → Nat} {M : Mm} : (enc cI cJ ad M)[32]? = some (ad 32, .inr (7, oM ad M)) := rfl
theorem f_M_fault {ad : Nat → Nat} {M : Mm} : (oM ad M)[0]? = some (.int (gi M 26)) := rfl
theorem f_M_trace {ad : Nat → Nat} {M : Mm} : (oM ad M)[1]? = some (.int (gi M 27)) := rfl
theorem f_M_up {ad : Nat → Nat} {M : Mm} : (oM ad M)[2]? = some (.long (gj M 4)) := rfl
theorem f_M_down {ad : Nat → Nat} {M : Mm} : (oM ad M)[3]? = some (.long (gj M 5)) := rfl
theorem f_M_lanes {ad : Nat → Nat} {M : Mm} : (oM ad M)[4]? = some (.ref (ad 33)) := rfl
theorem f_M_sheetLong {ad : Nat → Nat} {M : Mm} : (oM ad M)[5]? = some (.ref (ad 34)) := rfl
theorem f_M_cells {ad : Nat → Nat} {M : Mm} : (oM ad M)[6]? = some (.ref (ad 35)) := rfl
theorem f_M_isPlace {ad : Nat → Nat} {M : Mm} : (oM ad M)[7]? = some (.int (gi M 28)) := rfl
theorem f_M_served {ad : Nat → Nat} {M : Mm} : (oM ad M)[8]? = some (.int (gi M 29)) := rfl
theorem f_M_cost {ad : Nat → Nat} {M : Mm} : (oM ad M)[9]? = some (.int (gi M 30)) := rfl
theorem f_M_sorts {ad : Nat → Nat} {M : Mm} : (oM ad M)[10]? = some (.int (gi M 31)) := rfl
theorem f_M_twelfths {ad : Nat → Nat} {M : Mm} : (oM ad M)[11]? = some (.ref (ad 36)) := rfl
theorem f_M_worths {ad : Nat → Nat} {M : Mm} : (oM ad M)[12]? = some (.ref (ad 37)) := rfl
theorem f_M_bars {ad : Nat → Nat} {M : Mm} : (oM ad M)[13]? = some (.ref (ad 38)) := rfl
theorem f_M_toll {ad : Nat → Nat} {M : Mm} : (oM ad M)[14]? = some (.int (gi M 32)) := rfl
theorem f_M_step {ad : Nat → Nat} {M : Mm} : (oM ad M)[15]? = some (.int (gi M 33)) := rfl
theorem f_M_lie {ad : Nat → Nat} {M : Mm} : (oM ad M)[16]? = some (.int (gi M 34)) := rfl
theorem f_M_at {ad : Nat → Nat} {M : Mm} : (oM ad M)[17]? = some (.int (gi M 35)) := rfl
theorem f_M_end {ad : Nat → Nat} {M : Mm} : (oM ad M)[18]? = some (.int (gi M 36)) := rfl
theorem f_M_readServed {ad : Nat → Nat} {M : Mm} : (oM ad M)[19]? = some (.int (gi M 37)) := rfl
theorem f_M_readCost {ad : Nat → Nat} {M : Mm} : (oM ad M)[20]? = some (.int (gi M 38)) := rfl
theorem f_M_readSorts {ad : Nat → Nat} {M : Mm} : (oM ad M)[21]? = some (.int (gi M 39)) := rfl
theorem f_M_readTwelfths {ad : Nat → Nat} {M : Mm} : (oM ad M)[22]? = some (.ref (ad 39)) := rfl
theorem f_M_readWorths {ad : Nat → Nat} {M : Mm} : (oM ad M)[23]? = some (.ref (ad 40)) := rfl
theorem f_M_joins {ad : Nat → Nat} {M : Mm} : (oM ad M)[24]? = some (.ref (ad 41)) := rfl
theorem f_M_ups {ad : Nat → Nat} {M : Mm} : (oM ad M)[25]? = some (.ref (ad 42)) := rfl
theorem f_M_downs {ad : Nat → Nat} {M : Mm} : (oM ad M)[26]? = some (.ref (ad 43)) := rfl
theorem f_M_weights {ad : Nat → Nat} {M : Mm} : (oM ad M)[27]? = some (.ref (ad 44)) := rfl
theorem f_M_now {ad : Nat → Nat} {M : Mm} : (oM ad M)[28]? = some (.ref (ad 45)) := rfl
theorem f_M_next {ad : Nat → Nat} {M : Mm} : (oM ad M)[29]? = some (.ref (ad 46)) := rfl
theorem f_M_row {ad : Nat → Nat} {M : Mm} : (oM ad M)[30]? = some (.ref (ad 47)) := rfl
theorem f_M_bestRow {ad : Nat → Nat} {M : Mm} : (oM ad M)[31]? = some (.ref (ad 48)) := rfl
theorem f_M_comers {ad : Nat → Nat} {M : Mm} : (oM ad M)[32]? = some (.int (gi M 40)) := rfl
theorem f_M_minutes {ad : Nat → Nat} {M : Mm} : (oM ad M)[33]? = some (.int (gi M 41)) := rfl
theorem f_M_order {ad : Nat → Nat} {M : Mm} : (oM ad M)[34]? = some (.int (gi M 42)) := rfl
theorem f_M_comerSort {ad : Nat → Nat} {M : Mm} : (oM ad M)[35]? = some (.ref (ad 49)) := rfl
theorem f_M_comerKind {ad : Nat → Nat} {M : Mm} : (oM ad M)[36]? = some (.ref (ad 50)) := rfl
theorem f_M_waited {ad : Nat → Nat} {M : Mm} : (oM ad M)[37]? = some (.ref (ad 51)) := rfl
theorem f_M_came {ad : Nat → Nat} {M : Mm} : (oM ad M)[38]? = some (.ref (ad 52)) := rfl
theorem f_M_gone {ad : Nat → Nat} {M : Mm} : (oM ad M)[39]? = some (.ref (ad 53)) := rfl
theorem len_M {ad : Nat → Nat} {M : Mm} : (oM ad M).length = 40 := rfl
theorem s_M_fault {cI cJ : ClassId} {ad : Nat → Nat} {M : Mm} {v : Int32} : (enc cI cJ ad M).set 32 (ad 32, .inr (7, (oM ad M).set 0 (.int v))) = enc cI cJ ad (si M 26 v) := rfl
theorem s_M_trace {cI cJ : ClassId} {ad : Nat → Nat} {M : Mm} {v : Int32} : (enc cI cJ ad M).set 32 (ad 32, .inr (7, (oM ad M).set 1 (.int v))) = enc cI cJ ad (si M 27 v) := rfl
theorem s_M_up {cI cJ : ClassId} {ad : Nat → Nat} {M : Mm} {v : Int64} : (enc cI cJ ad M).set 32 (ad 32, .inr (7, (oM ad M).set 2 (.long v))) = enc cI cJ ad (sj M 4 v) := rfl
theorem s_M_down {cI cJ : ClassId} {ad : Nat → Nat} {M : Mm} {v : Int64} : (enc cI cJ ad M).set 32 (ad 32, .inr (7, (oM ad M).set 3 (.long v))) = enc cI cJ ad (sj M 5 v) := rfl
theorem s_M_isPlace {cI cJ : ClassId} {ad : Nat → Nat} {M : Mm} {v : Int32} : (enc cI cJ ad M).set 32 (ad 32, .inr (7, (oM ad M).set 7 (.int v))) = enc cI cJ ad (si M 28 v) := rfl
theorem s_M_served {cI cJ : ClassId} {ad : Nat → Nat} {M : Mm} {v : Int32} : (enc cI cJ ad M).set 32 (ad 32, .inr (7, (oM ad M).set 8 (.int v))) = enc cI cJ ad (si M 29 v) := rfl
theorem s_M_cost {cI cJ : ClassId} {ad : Nat → Nat} {M : Mm} {v : Int32} : (enc cI cJ ad M).set 32 (ad 32, .inr (7, (oM ad M).set 9 (.int v))) = enc cI cJ ad (si M 30 v) := rfl
theorem s_M_sorts {cI cJ : ClassId} {ad : Nat → Nat} {M : Mm} {v : Int32} : (enc cI cJ ad M).set 32 (ad 32, .inr (7, (oM ad M).set 10 (.int v))) = enc cI cJ ad (si M 31 v) := rfl
theorem s_M_toll {cI cJ : ClassId} {ad : Nat → Nat} {M : Mm} {v : Int32} : (enc cI cJ ad M).set 32 (ad 32, .inr (7, (oM ad M).set 14 (.int v))) = enc cI cJ ad (si M 32 v) := rfl
theorem s_M_step {cI cJ : ClassId} {ad : Nat → Nat} {M : Mm} {v : Int32} : (enc cI cJ ad M).set 32 (ad 32, .inr (7, (oM ad M).set 15 (.int v))) = enc cI cJ ad (si M 33 v) := rfl
theorem s_M_lie {cI cJ : ClassId} {ad : Nat → Nat} {M : Mm} {v : Int32} : (enc cI cJ ad M).set 32 (ad 32, .inr (7, (oM ad M).set 16 (.int v))) = enc cI cJ ad (si M 34 v) := rfl
theorem s_M_at {cI cJ : ClassId} {ad : Nat → Nat} {M : Mm} {v : Int32} : (enc cI cJ ad M).set 32 (ad 32, .inr (7, (oM ad M).set 17 (.int v))) = enc cI cJ ad (si M 35 v) := rfl
theorem s_M_end {cI cJ : ClassId} {ad : Nat → Nat} {M : Mm} {v : Int32} : (enc cI cJ ad M).set 32 (ad 32, .inr (7, (oM ad M).set 18 (.int v))) = enc cI cJ ad (si M 36 v) := rfl
theorem s_M_readServed {cI cJ : ClassId} {ad : Nat → Nat} {M : Mm} {v : Int32} : (enc cI cJ ad M).set 32 (ad 32, .inr (7, (oM ad M).set 19 (.int v))) = enc cI cJ ad (si M 37 v) := rfl
theorem s_M_readCost {cI cJ : ClassId} {ad : Nat → Nat} {M : Mm} {v : Int32} : (enc cI cJ ad M).set 32 (ad 32, .inr (7, (oM ad M).set 20 (.int v))) = enc cI cJ ad (si M 38 v) := rfl
theorem s_M_readSorts {cI cJ : ClassId} {ad : Nat → Nat} {M : Mm} {v : Int32} : (enc cI cJ ad M).set 32 (ad 32, .inr (7, (oM ad M).set 21 (.int v))) = enc cI cJ ad (si M 39 v) := rfl
theorem s_M_comers {cI cJ : ClassId} {ad : Nat → Nat} {M : Mm} {v : Int32} : (enc cI cJ ad M).set 32 (ad 32, .inr (7, (oM ad M).set 32 (.int v))) = enc cI cJ ad (si M 40 v) := rfl
theorem s_M_minutes {cI cJ : ClassId} {ad : Nat → Nat} {M : Mm} {v : Int32} : (enc cI cJ ad M).set 32 (ad 32, .inr (7, (oM ad M).set 33 (.int v))) = enc cI cJ ad (si M 41 v) := rfl
theorem s_M_order {cI cJ : ClassId} {ad : Nat → Nat} {M : Mm} {v : Int32} : (enc cI cJ ad M).set 32 (ad 32, .inr (7, (oM ad M).set 34 (.int v))) = enc cI cJ ad (si M 42 v) := rfl
theorem isA_in {k : Nat} (h : isA k = true) : k ∈ [8, 9, 10, 11, 12, 13, 14, 15, 16, 20, 24, 25, 26, 27, 28, 29, 30, 31, 33, 34, 35, 36, 37, 38, 39, 40, 41, 47, 48, 49, 50, 51, 52, 53] := by
  have hk : k < 54 := by
    by_cases q : k < 54
    · exact q
    · have e : kdL.getD k 0 = 0 := by rw [List.getD_eq_getElem?_getD, List.getElem?_eq_none (by simp [kdL]; omega)]; rfl
      rw [isA, e] at h; cases h
  have all : ∀ k, k < 54 → isA k = true → k ∈ [8, 9, 10, 11, 12, 13, 14, 15, 16, 20, 24, 25, 26, 27, 28, 29, 30, 31, 33, 34, 35, 36, 37, 38, 39, 40, 41, 47, 48, 49, 50, 51, 52, 53] := by decide +kernel
  exact all k hk h
set_option maxRecDepth 20000 in
theorem eA {cI cJ : ClassId} {ad : Nat → Nat} {M : Mm} {k : Nat} (h : isA k = true) : (enc cI cJ ad M)[k]? = some (ad k, .inl (cI, lenA k, .inl (ga M k))) := by
  have h := isA_in h
  simp only [List.mem_cons, List.not_mem_nil, or_false] at h
  rcases h with rfl | rfl | rfl | rfl | rfl | rfl | rfl | rfl | rfl | rfl | rfl | rfl | rfl | rfl | rfl | rfl | rfl | rfl | rfl | rfl | rfl | rfl | rfl | rfl | rfl | rfl | rfl | rfl | rfl | rfl | rfl | rfl | rfl | rfl <;> rfl
set_option maxRecDepth 20000 in
theorem sA {cI cJ : ClassId} {ad : Nat → Nat} {M : Mm} {k : Nat} (h : isA k = true) {f : Nat → Int32} : (enc cI cJ ad M).set k (ad k, .inl (cI, lenA k, .inl f)) = enc cI cJ ad (sa M k f) := by
  have h := isA_in h
  simp only [List.mem_cons, List.not_mem_nil, or_false] at h
  rcases h with rfl | rfl | rfl | rfl | rfl | rfl | rfl | rfl | rfl | rfl | rfl | rfl | rfl | rfl | rfl | rfl | rfl | rfl | rfl | rfl | rfl | rfl | rfl | rfl | rfl | rfl | rfl | rfl | rfl | rfl | rfl | rfl | rfl | rfl <;> rfl
theorem isB_in {k : Nat} (h : isB k = true) : k ∈ [17, 18, 19, 21, 22, 23, 42, 43, 44, 45, 46] := by
  have hk : k < 54 := by
    by_cases q : k < 54
    · exact q
    · have e : kdL.getD k 0 = 0 := by rw [List.getD_eq_getElem?_getD, List.getElem?_eq_none (by simp [kdL]; omega)]; rfl
      rw [isB, e] at h; cases h
  have all : ∀ k, k < 54 → isB k = true → k ∈ [17, 18, 19, 21, 22, 23, 42, 43, 44, 45, 46] := by decide +kernel
  exact all k hk h
set_option maxRecDepth 20000 in
theorem eB {cI cJ : ClassId} {ad : Nat → Nat} {M : Mm} {k : Nat} (h : isB k = true) : (enc cI cJ ad M)[k]? = some (ad k, .inl (cJ, lenA k, .inr (.inl (gb M k)))) := by
  have h := isB_in h
  simp only [List.mem_cons, List.not_mem_nil, or_false] at h
  rcases h with rfl | rfl | rfl | rfl | rfl | rfl | rfl | rfl | rfl | rfl | rfl <;> rfl
set_option maxRecDepth 20000 in
theorem sB {cI cJ : ClassId} {ad : Nat → Nat} {M : Mm} {k : Nat} (h : isB k = true) {f : Nat → Int64} : (enc cI cJ ad M).set k (ad k, .inl (cJ, lenA k, .inr (.inl f))) = enc cI cJ ad (sb M k f) := by
  have h := isB_in h
  simp only [List.mem_cons, List.not_mem_nil, or_false] at h
  rcases h with rfl | rfl | rfl | rfl | rfl | rfl | rfl | rfl | rfl | rfl | rfl <;> rfl
theorem is_L_joining {o : Nat} (ho : o < 2) : isA (16+4*o) = true := by
  match o, ho with
  | 0, _ => rfl
  | 1, _ => rfl
theorem len_L_joining {o : Nat} (ho : o < 2) : lenA (16+4*o) = 6 := by
  match o, ho with
  | 0, _ => rfl
  | 1, _ => rfl
theorem is_L_weights {o : Nat} (ho : o < 2) : isB (17+4*o) = true := by
  match o, ho with
  | 0, _ => rfl
  | 1, _ => rfl
theorem len_L_weights {o : Nat} (ho : o < 2) : lenA (17+4*o) = 6 := by
  match o, ho with
  | 0, _ => rfl
  | 1, _ => rfl
theorem is_L_now {o : Nat} (ho : o < 2) : isB (18+4*o) = true := by
  match o, ho with
  | 0, _ => rfl
  | 1, _ => rfl
theorem len_L_now {o : Nat} (ho : o < 2) : lenA (18+4*o) = 6 := by
  match o, ho with
  | 0, _ => rfl
  | 1, _ => rfl
theorem is_L_then {o : Nat} (ho : o < 2) : isB (19+4*o) = true := by
  match o, ho with
  | 0, _ => rfl
  | 1, _ => rfl
theorem len_L_then {o : Nat} (ho : o < 2) : lenA (19+4*o) = 6 := by
  match o, ho with
  | 0, _ => rfl
  | 1, _ => rfl
/-- the links to private members of nest mates -/
def nW : List Cond := [.fieldLinkNest RX5 80 "RopeLine$Sheets" "cells" "[I" "RopeLine",
  .fieldLinkNest RX2 40 "RopeLine$Text" "twelfths" "[I" "RopeLine",
  .fieldLinkNest RX2 49 "RopeLine$Text" "worths" "[I" "RopeLine",
  .fieldLinkNest RX6 84 "RopeLine$Text" "next" "I" "RopeLine",
  .fieldLinkNest RX2 25 "RopeLine$Text" "served" "I" "RopeLine",
  .fieldLinkNest RX2 32 "RopeLine$Text" "cost" "I" "RopeLine",
  .fieldLinkNest RX2 36 "RopeLine$Text" "sorts" "I" "RopeLine",
  .fieldLinkNest RX0 39 "RopeLine$Place" "twelfths" "[I" "RopeLine",
  .fieldLinkNest RX1 45 "RopeLine$Place" "twelfths" "[I" "RopeLine",
  .fieldLinkNest RX6 124 "RopeLine$Place" "twelfths" "[I" "RopeLine",
  .fieldLinkNest RX0 46 "RopeLine$Place" "worths" "[I" "RopeLine",
  .fieldLinkNest RX6 132 "RopeLine$Place" "worths" "[I" "RopeLine",
  .fieldLinkNest RX3 56 "RopeLine$Place" "worths" "[I" "RopeLine",
  .fieldLinkNest RX6 135 "RopeLine$Place" "bars" "[I" "RopeLine",
  .fieldLinkNest RX6 100 "RopeLine$Place" "isTold" "Z" "RopeLine",
  .fieldLinkNest RX1 25 "RopeLine$Place" "served" "I" "RopeLine",
  .fieldLinkNest RX6 104 "RopeLine$Place" "served" "I" "RopeLine",
  .fieldLinkNest RX6 107 "RopeLine$Place" "cost" "I" "RopeLine",
  .fieldLinkNest RX0 53 "RopeLine$Place" "cost" "I" "RopeLine",
  .fieldLinkNest RX6 97 "RopeLine$Place" "sorts" "I" "RopeLine",
  .fieldLinkNest RX0 33 "RopeLine$Place" "sorts" "I" "RopeLine",
  .fieldLinkNest RX6 114 "RopeLine$Place" "toll" "I" "RopeLine",
  .fieldLinkNest RX6 117 "RopeLine$Place" "step" "I" "RopeLine",
  .fieldLinkNest RX6 120 "RopeLine$Place" "lie" "I" "RopeLine",
  .fieldLinkNest RX6 162 "RopeLine$Lengths" "weights" "[J" "RopeLine",
  .fieldLinkNest RX0 66 "RopeLine$Lengths" "total" "J" "RopeLine",
  .fieldLinkNest RX6 169 "RopeLine$Lengths" "total" "J" "RopeLine",
  .fieldLinkNest RX6 214 "RopeLine$Gains" "row" "[I" "RopeLine",
  .fieldLinkNest RX6 153 "RopeLine$Gains" "bestRow" "[I" "RopeLine",
  .fieldLinkNest RX6 201 "RopeLine$Gains" "upper" "J" "RopeLine",
  .fieldLinkNest RX6 204 "RopeLine$Gains" "lower" "J" "RopeLine",
  .fieldLinkNest RX6 266 "RopeLine$Queue" "kinds" "[I" "RopeLine",
  .fieldLinkNest RX6 269 "RopeLine$Queue" "sorts" "[I" "RopeLine",
  .fieldLinkNest RX6 271 "RopeLine$Queue" "waited" "[I" "RopeLine",
  .fieldLinkNest RX6 274 "RopeLine$Queue" "cameIn" "[I" "RopeLine",
  .fieldLinkNest RX6 277 "RopeLine$Queue" "servedIn" "[I" "RopeLine",
  .fieldLinkNest RX6 290 "RopeLine$Queue" "row" "[I" "RopeLine",
  .fieldLinkNest RX6 328 "RopeLine$Queue" "comers" "I" "RopeLine",
  .fieldLinkNest RX6 249 "RopeLine$Queue" "standing" "I" "RopeLine",
  .fieldLinkNest RX6 262 "RopeLine$Queue" "minutes" "I" "RopeLine",
  .methodLinkNest RX4 21 yX6_set "RopeLine",
  .methodLinkNest RX6 29 yX2_init "RopeLine",
  .methodLinkNest RX6 36 yX1_init "RopeLine",
  .methodLinkNest RX6 43 yX0_init "RopeLine",
  .methodLinkNest RX0 11 yX1_init "RopeLine",
  .methodLinkNest RX6 50 yX3_init "RopeLine",
  .methodLinkNest RX4 25 yX6_isWithin "RopeLine",
  .methodLinkNest RX4 29 yX6_at "RopeLine",
  .methodLinkNest RX5 83 yX6_at "RopeLine",
  .methodLinkNest RX5 76 yX6_isWithin "RopeLine",
  .methodLinkNest RX5 64 yX6_set "RopeLine",
  .methodLinkNest RX2 41 yX6_at "RopeLine",
  .methodLinkNest RX2 45 yX6_set "RopeLine",
  .methodLinkNest RX2 59 yX6_isWithin "RopeLine",
  .methodLinkNest RX0 76 yX6_rowsOf "RopeLine",
  .methodLinkNest RX0 72 yX6_set "RopeLine",
  .methodLinkNest RX1 38 yX6_set "RopeLine",
  .methodLinkNest RX1 51 yX6_set_ "RopeLine",
  .methodLinkNest RX1 48 yX6_at "RopeLine",
  .methodLinkNest RX1 58 yX6_at_ "RopeLine",
  .methodLinkNest RX0 42 yX6_at "RopeLine",
  .methodLinkNest RX0 87 yX6_compareShares "RopeLine",
  .methodLinkNest RX1 71 yX6_share "RopeLine",
  .methodLinkNest RX3 44 yX6_at "RopeLine",
  .methodLinkNest RX3 48 yX6_set "RopeLine",
  .methodLinkNest RX3 40 yX6_isWithin "RopeLine"]
theorem nw_RX5_80 : Cond.fieldLinkNest RX5 80 "RopeLine$Sheets" "cells" "[I" "RopeLine" ∈ nW := List.mem_of_getElem? (i := 0) rfl
theorem nw_RX2_40 : Cond.fieldLinkNest RX2 40 "RopeLine$Text" "twelfths" "[I" "RopeLine" ∈ nW := List.mem_of_getElem? (i := 1) rfl
theorem nw_RX2_49 : Cond.fieldLinkNest RX2 49 "RopeLine$Text" "worths" "[I" "RopeLine" ∈ nW := List.mem_of_getElem? (i := 2) rfl
theorem nw_RX6_84 : Cond.fieldLinkNest RX6 84 "RopeLine$Text" "next" "I" "RopeLine" ∈ nW := List.mem_of_getElem? (i := 3) rfl
theorem nw_RX2_25 : Cond.fieldLinkNest RX2 25 "RopeLine$Text" "served" "I" "RopeLine" ∈ nW := List.mem_of_getElem? (i := 4) rfl
theorem nw_RX2_32 : Cond.fieldLinkNest RX2 32 "RopeLine$Text" "cost" "I" "RopeLine" ∈ nW := List.mem_of_getElem? (i := 5) rfl
theorem nw_RX2_36 : Cond.fieldLinkNest RX2 36 "RopeLine$Text" "sorts" "I" "RopeLine" ∈ nW := List.mem_of_getElem? (i := 6) rfl
theorem nw_RX0_39 : Cond.fieldLinkNest RX0 39 "RopeLine$Place" "twelfths" "[I" "RopeLine" ∈ nW := List.mem_of_getElem? (i := 7) rfl
theorem nw_RX1_45 : Cond.fieldLinkNest RX1 45 "RopeLine$Place" "twelfths" "[I" "RopeLine" ∈ nW := List.mem_of_getElem? (i := 8) rfl
theorem nw_RX6_124 : Cond.fieldLinkNest RX6 124 "RopeLine$Place" "twelfths" "[I" "RopeLine" ∈ nW := List.mem_of_getElem? (i := 9) rfl
theorem nw_RX0_46 : Cond.fieldLinkNest RX0 46 "RopeLine$Place" "worths" "[I" "RopeLine" ∈ nW := List.mem_of_getElem? (i := 10) rfl
theorem nw_RX6_132 : Cond.fieldLinkNest RX6 132 "RopeLine$Place" "worths" "[I" "RopeLine" ∈ nW := List.mem_of_getElem? (i := 11) rfl
theorem nw_RX3_56 : Cond.fieldLinkNest RX3 56 "RopeLine$Place" "worths" "[I" "RopeLine" ∈ nW := List.mem_of_getElem? (i := 12) rfl
theorem nw_RX6_135 : Cond.fieldLinkNest RX6 135 "RopeLine$Place" "bars" "[I" "RopeLine" ∈ nW := List.mem_of_getElem? (i := 13) rfl
theorem nw_RX6_100 : Cond.fieldLinkNest RX6 100 "RopeLine$Place" "isTold" "Z" "RopeLine" ∈ nW := List.mem_of_getElem? (i := 14) rfl
theorem nw_RX1_25 : Cond.fieldLinkNest RX1 25 "RopeLine$Place" "served" "I" "RopeLine" ∈ nW := List.mem_of_getElem? (i := 15) rfl
theorem nw_RX6_104 : Cond.fieldLinkNest RX6 104 "RopeLine$Place" "served" "I" "RopeLine" ∈ nW := List.mem_of_getElem? (i := 16) rfl
theorem nw_RX6_107 : Cond.fieldLinkNest RX6 107 "RopeLine$Place" "cost" "I" "RopeLine" ∈ nW := List.mem_of_getElem? (i := 17) rfl
theorem nw_RX0_53 : Cond.fieldLinkNest RX0 53 "RopeLine$Place" "cost" "I" "RopeLine" ∈ nW := List.mem_of_getElem? (i := 18) rfl
theorem nw_RX6_97 : Cond.fieldLinkNest RX6 97 "RopeLine$Place" "sorts" "I" "RopeLine" ∈ nW := List.mem_of_getElem? (i := 19) rfl
theorem nw_RX0_33 : Cond.fieldLinkNest RX0 33 "RopeLine$Place" "sorts" "I" "RopeLine" ∈ nW := List.mem_of_getElem? (i := 20) rfl
theorem nw_RX6_114 : Cond.fieldLinkNest RX6 114 "RopeLine$Place" "toll" "I" "RopeLine" ∈ nW := List.mem_of_getElem? (i := 21) rfl
theorem nw_RX6_117 : Cond.fieldLinkNest RX6 117 "RopeLine$Place" "step" "I" "RopeLine" ∈ nW := List.mem_of_getElem? (i := 22) rfl
theorem nw_RX6_120 : Cond.fieldLinkNest RX6 120 "RopeLine$Place" "lie" "I" "RopeLine" ∈ nW := List.mem_of_getElem? (i := 23) rfl
theorem nw_RX6_162 : Cond.fieldLinkNest RX6 162 "RopeLine$Lengths" "weights" "[J" "RopeLine" ∈ nW := List.mem_of_getElem? (i := 24) rfl
theorem nw_RX0_66 : Cond.fieldLinkNest RX0 66 "RopeLine$Lengths" "total" "J" "RopeLine" ∈ nW := List.mem_of_getElem? (i := 25) rfl
theorem nw_RX6_169 : Cond.fieldLinkNest RX6 169 "RopeLine$Lengths" "total" "J" "RopeLine" ∈ nW := List.mem_of_getElem? (i := 26) rfl
theorem nw_RX6_214 : Cond.fieldLinkNest RX6 214 "RopeLine$Gains" "row" "[I" "RopeLine" ∈ nW := List.mem_of_getElem? (i := 27) rfl
theorem nw_RX6_153 : Cond.fieldLinkNest RX6 153 "RopeLine$Gains" "bestRow" "[I" "RopeLine" ∈ nW := List.mem_of_getElem? (i := 28) rfl
theorem nw_RX6_201 : Cond.fieldLinkNest RX6 201 "RopeLine$Gains" "upper" "J" "RopeLine" ∈ nW := List.mem_of_getElem? (i := 29) rfl
theorem nw_RX6_204 : Cond.fieldLinkNest RX6 204 "RopeLine$Gains" "lower" "J" "RopeLine" ∈ nW := List.mem_of_getElem? (i := 30) rfl
theorem nw_RX6_266 : Cond.fieldLinkNest RX6 266 "RopeLine$Queue" "kinds" "[I" "RopeLine" ∈ nW := List.mem_of_getElem? (i := 31) rfl
theorem nw_RX6_269 : Cond.fieldLinkNest RX6 269 "RopeLine$Queue" "sorts" "[I" "RopeLine" ∈ nW := List.mem_of_getElem? (i := 32) rfl
theorem nw_RX6_271 : Cond.fieldLinkNest RX6 271 "RopeLine$Queue" "waited" "[I" "RopeLine" ∈ nW := List.mem_of_getElem? (i := 33) rfl
theorem nw_RX6_274 : Cond.fieldLinkNest RX6 274 "RopeLine$Queue" "cameIn" "[I" "RopeLine" ∈ nW := List.mem_of_getElem? (i := 34) rfl
theorem nw_RX6_277 : Cond.fieldLinkNest RX6 277 "RopeLine$Queue" "servedIn" "[I" "RopeLine" ∈ nW := List.mem_of_getElem? (i := 35) rfl
theorem nw_RX6_290 : Cond.fieldLinkNest RX6 290 "RopeLine$Queue" "row" "[I" "RopeLine" ∈ nW := List.mem_of_getElem? (i := 36) rfl
theorem nw_RX6_328 : Cond.fieldLinkNest RX6 328 "RopeLine$Queue" "comers" "I" "RopeLine" ∈ nW := List.mem_of_getElem? (i := 37) rfl
theorem nw_RX6_249 : Cond.fieldLinkNest RX6 249 "RopeLine$Queue" "standing" "I" "RopeLine" ∈ nW := List.mem_of_getElem? (i := 38) rfl
theorem nw_RX6_262 : Cond.fieldLinkNest RX6 262 "RopeLine$Queue" "minutes" "I" "RopeLine" ∈ nW := List.mem_of_getElem? (i := 39) rfl
theorem nw_RX4_21 : Cond.methodLinkNest RX4 21 yX6_set "RopeLine" ∈ nW := List.mem_of_getElem? (i := 40) rfl
theorem nw_RX6_29 : Cond.methodLinkNest RX6 29 yX2_init "RopeLine" ∈ nW := List.mem_of_getElem? (i := 41) rfl
theorem nw_RX6_36 : Cond.methodLinkNest RX6 36 yX1_init "RopeLine" ∈ nW := List.mem_of_getElem? (i := 42) rfl
theorem nw_RX6_43 : Cond.methodLinkNest RX6 43 yX0_init "RopeLine" ∈ nW := List.mem_of_getElem? (i := 43) rfl
theorem nw_RX0_11 : Cond.methodLinkNest RX0 11 yX1_init "RopeLine" ∈ nW := List.mem_of_getElem? (i := 44) rfl
theorem nw_RX6_50 : Cond.methodLinkNest RX6 50 yX3_init "RopeLine" ∈ nW := List.mem_of_getElem? (i := 45) rfl
theorem nw_RX4_25 : Cond.methodLinkNest RX4 25 yX6_isWithin "RopeLine" ∈ nW := List.mem_of_getElem? (i := 46) rfl
theorem nw_RX4_29 : Cond.methodLinkNest RX4 29 yX6_at "RopeLine" ∈ nW := List.mem_of_getElem? (i := 47) rfl
theorem nw_RX5_83 : Cond.methodLinkNest RX5 83 yX6_at "RopeLine" ∈ nW := List.mem_of_getElem? (i := 48) rfl
theorem nw_RX5_76 : Cond.methodLinkNest RX5 76 yX6_isWithin "RopeLine" ∈ nW := List.mem_of_getElem? (i := 49) rfl
theorem nw_RX5_64 : Cond.methodLinkNest RX5 64 yX6_set "RopeLine" ∈ nW := List.mem_of_getElem? (i := 50) rfl
theorem nw_RX2_41 : Cond.methodLinkNest RX2 41 yX6_at "RopeLine" ∈ nW := List.mem_of_getElem? (i := 51) rfl
theorem nw_RX2_45 : Cond.methodLinkNest RX2 45 yX6_set "RopeLine" ∈ nW := List.mem_of_getElem? (i := 52) rfl
theorem nw_RX2_59 : Cond.methodLinkNest RX2 59 yX6_isWithin "RopeLine" ∈ nW := List.mem_of_getElem? (i := 53) rfl
theorem nw_RX0_76 : Cond.methodLinkNest RX0 76 yX6_rowsOf "RopeLine" ∈ nW := List.mem_of_getElem? (i := 54) rfl
theorem nw_RX0_72 : Cond.methodLinkNest RX0 72 yX6_set "RopeLine" ∈ nW := List.mem_of_getElem? (i := 55) rfl
theorem nw_RX1_38 : Cond.methodLinkNest RX1 38 yX6_set "RopeLine" ∈ nW := List.mem_of_getElem? (i := 56) rfl
theorem nw_RX1_51 : Cond.methodLinkNest RX1 51 yX6_set_ "RopeLine" ∈ nW := List.mem_of_getElem? (i := 57) rfl
theorem nw_RX1_48 : Cond.methodLinkNest RX1 48 yX6_at "RopeLine" ∈ nW := List.mem_of_getElem? (i := 58) rfl
theorem nw_RX1_58 : Cond.methodLinkNest RX1 58 yX6_at_ "RopeLine" ∈ nW := List.mem_of_getElem? (i := 59) rfl
theorem nw_RX0_42 : Cond.methodLinkNest RX0 42 yX6_at "RopeLine" ∈ nW := List.mem_of_getElem? (i := 60) rfl
theorem nw_RX0_87 : Cond.methodLinkNest RX0 87 yX6_compareShares "RopeLine" ∈ nW := List.mem_of_getElem? (i := 61) rfl
theorem nw_RX1_71 : Cond.methodLinkNest RX1 71 yX6_share "RopeLine" ∈ nW := List.mem_of_getElem? (i := 62) rfl
theorem nw_RX3_44 : Cond.methodLinkNest RX3 44 yX6_at "RopeLine" ∈ nW := List.mem_of_getElem? (i := 63) rfl
theorem nw_RX3_48 : Cond.methodLinkNest RX3 48 yX6_set "RopeLine" ∈ nW := List.mem_of_getElem? (i := 64) rfl
theorem nw_RX3_40 : Cond.methodLinkNest RX3 40 yX6_isWithin "RopeLine" ∈ nW := List.mem_of_getElem? (i := 65) rfl
def KK (D : va_G) (cI cJ : ClassId) (U : State) : Prop := va_K D vwCl [(cI, .int), (cJ, .long)] U ∧ ∀ w ∈ nW, va_Nw w U
set_option maxRecDepth 20000 in
theorem nW_warm {s U : State} (hW : s.WarmedH U.vm) : ∀ w ∈ nW, va_Nw w s → va_Nw w U := by
  unfold nW
  refine List.forall_mem_cons.mpr ⟨fun h => va_Nw.warmF hW h, ?_⟩
  refine List.forall_mem_cons.mpr ⟨fun h => va_Nw.warmF hW h, ?_⟩
  refine List.forall_mem_cons.mpr ⟨fun h => va_Nw.warmF hW h, ?_⟩
  refine List.forall_mem_cons.mpr ⟨fun h => va_Nw.warmF hW h, ?_⟩
  refine List.forall_mem_cons.mpr ⟨fun h => va_Nw.warmF hW h, ?_⟩
  refine List.forall_mem_cons.mpr ⟨fun h => va_Nw.warmF hW h, ?_⟩
  refine List.forall_mem_cons.mpr ⟨fun h => va_Nw.warmF hW h, ?_⟩
  refine List.forall_mem_cons.mpr ⟨fun h => va_Nw.warmF hW h, ?_⟩
  refine List.forall_mem_cons.mpr ⟨fun h => va_Nw.warmF hW h, ?_⟩
  refine List.forall_mem_cons.mpr ⟨fun h => va_Nw.warmF hW h, ?_⟩
  refine List.forall_mem_cons.mpr ⟨fun h => va_Nw.warmF hW h, ?_⟩
  refine List.forall_mem_cons.mpr ⟨fun h => va_Nw.warmF hW h, ?_⟩
  refine List.forall_mem_cons.mpr ⟨fun h => va_Nw.warmF hW h, ?_⟩
  refine List.forall_mem_cons.mpr ⟨fun h => va_Nw.warmF hW h, ?_⟩
  refine List.forall_mem_cons.mpr ⟨fun h => va_Nw.warmF hW h, ?_⟩
  refine List.forall_mem_cons.mpr ⟨fun h => va_Nw.warmF hW h, ?_⟩
  refine List.forall_mem_cons.mpr ⟨fun h => va_Nw.warmF hW h, ?_⟩
  refine List.forall_mem_cons.mpr ⟨fun h => va_Nw.warmF hW h, ?_⟩
  refine List.forall_mem_cons.mpr ⟨fun h => va_Nw.warmF hW h, ?_⟩
  refine List.forall_mem_cons.mpr ⟨fun h => va_Nw.warmF hW h, ?_⟩
  refine List.forall_mem_cons.mpr ⟨fun h => va_Nw.warmF hW h, ?_⟩
  refine List.forall_mem_cons.mpr ⟨fun h => va_Nw.warmF hW h, ?_⟩
  refine List.forall_mem_cons.mpr ⟨fun h => va_Nw.warmF hW h, ?_⟩
  refine List.forall_mem_cons.mpr ⟨fun h => va_Nw.warmF hW h, ?_⟩
  refine List.forall_mem_cons.mpr ⟨fun h => va_Nw.warmF hW h, ?_⟩
  refine List.forall_mem_cons.mpr ⟨fun h => va_Nw.warmF hW h, ?_⟩
  refine List.forall_mem_cons.mpr ⟨fun h => va_Nw.warmF hW h, ?_⟩
  refine List.forall_mem_cons.mpr ⟨fun h => va_Nw.warmF hW h, ?_⟩
  refine List.forall_mem_cons.mpr ⟨fun h => va_Nw.warmF hW h, ?_⟩
  refine List.forall_mem_cons.mpr ⟨fun h => va_Nw.warmF hW h, ?_⟩
  refine List.forall_mem_cons.mpr ⟨fun h => va_Nw.warmF hW h, ?_⟩
  refine List.forall_mem_cons.mpr ⟨fun h => va_Nw.warmF hW h, ?_⟩
  refine List.forall_mem_cons.mpr ⟨fun h => va_Nw.warmF hW h, ?_⟩
  refine List.forall_mem_cons.mpr ⟨fun h => va_Nw.warmF hW h, ?_⟩
  refine List.forall_mem_cons.mpr ⟨fun h => va_Nw.warmF hW h, ?_⟩
  refine List.forall_mem_cons.mpr ⟨fun h => va_Nw.warmF hW h, ?_⟩
  refine List.forall_mem_cons.mpr ⟨fun h => va_Nw.warmF hW h, ?_⟩
  refine List.forall_mem_cons.mpr ⟨fun h => va_Nw.warmF hW h, ?_⟩
  refine List.forall_mem_cons.mpr ⟨fun h => va_Nw.warmF hW h, ?_⟩
  refine List.forall_mem_cons.mpr ⟨fun h => va_Nw.warmF hW h, ?_⟩
  refine List.forall_mem_cons.mpr ⟨fun h => va_Nw.warmM hW h, ?_⟩
  refine List.forall_mem_cons.mpr ⟨fun h => va_Nw.warmM hW h, ?_⟩
  refine List.forall_mem_cons.mpr ⟨fun h => va_Nw.warmM hW h, ?_⟩
  refine List.forall_mem_cons.mpr ⟨fun h => va_Nw.warmM hW h, ?_⟩
  refine List.forall_mem_cons.mpr ⟨fun h => va_Nw.warmM hW h, ?_⟩
  refine List.forall_mem_cons.mpr ⟨fun h => va_Nw.warmM hW h, ?_⟩
  refine List.forall_mem_cons.mpr ⟨fun h => va_Nw.warmM hW h, ?_⟩
  refine List.forall_mem_cons.mpr ⟨fun h => va_Nw.warmM hW h, ?_⟩
  refine List.forall_mem_cons.mpr ⟨fun h => va_Nw.warmM hW h, ?_⟩
  refine List.forall_mem_cons.mpr ⟨fun h => va_Nw.warmM hW h, ?_⟩
  refine List.forall_mem_cons.mpr ⟨fun h => va_Nw.warmM hW h, ?_⟩
  refine List.forall_mem_cons.mpr ⟨fun h => va_Nw.warmM hW h, ?_⟩
  refine List.forall_mem_cons.mpr ⟨fun h => va_Nw.warmM hW h, ?_⟩
  refine List.forall_mem_cons.mpr ⟨fun h => va_Nw.warmM hW h, ?_⟩
  refine List.forall_mem_cons.mpr ⟨fun h => va_Nw.warmM hW h, ?_⟩
  refine List.forall_mem_cons.mpr ⟨fun h => va_Nw.warmM hW h, ?_⟩
  refine List.forall_mem_cons.mpr ⟨fun h => va_Nw.warmM hW h, ?_⟩
  refine List.forall_mem_cons.mpr ⟨fun h => va_Nw.warmM hW h, ?_⟩
  refine List.forall_mem_cons.mpr ⟨fun h => va_Nw.warmM hW h, ?_⟩
  refine List.forall_mem_cons.mpr ⟨fun h => va_Nw.warmM hW h, ?_⟩
  refine List.forall_mem_cons.mpr ⟨fun h => va_Nw.warmM hW h, ?_⟩
  refine List.forall_mem_cons.mpr ⟨fun h => va_Nw.warmM hW h, ?_⟩
  refine List.forall_mem_cons.mpr ⟨fun h => va_Nw.warmM hW h, ?_⟩
  refine List.forall_mem_cons.mpr ⟨fun h => va_Nw.warmM hW h, ?_⟩
  refine List.forall_mem_cons.mpr ⟨fun h => va_Nw.warmM hW h, ?_⟩
  refine List.forall_mem_cons.mpr ⟨fun h => va_Nw.warmM hW h, ?_⟩
  exact fun _ h => absurd h List.not_mem_nil
set_option maxRecDepth 20000 in
theorem nW_tab : ∀ w ∈ nW, w.onTables = true := by decide +kernel
theorem KK.warm {D : va_G} {cI cJ : ClassId} {s U : State} (h : KK D cI cJ s) (hW : s.WarmedH U.vm) : KK D cI cJ U := ⟨va_K.moved hW.alike h.1, fun w hw => nW_warm hW w hw (h.2 w hw)⟩
theorem KK.calling {D : va_G} {cI cJ : ClassId} {U : State} (g : JFrame) (mk : MethodId) (a : Array Value) (h : KK D cI cJ U) : KK D cI cJ (U.calling g mk a) := ⟨va_K.moved (u := U) (U := U.calling g mk a) (Vm.Alike.refl U.vm) h.1, fun w hw => va_Nw.same (u := U) (U := U.calling g mk a) (nW_tab w hw) rfl (h.2 w hw)⟩
/-- a method's start: its arguments, the world by its registers, the tables -/
def PcW (D : va_G) (cI cJ : ClassId) (ad : Nat → Nat) (M : Mm) (av : List Value) : Array Value → State → Prop := va_Pc av (fun U => va_P D vwCl (enc cI cJ ad M) U.heap ∧ KK D cI cJ U)
theorem PcW.blind {D : va_G} {cI cJ : ClassId} {ad : Nat → Nat} {M : Mm} {av : List Value} : FrameBlind (PcW D cI cJ ad M av) := fun a U g mk q => ⟨q.1, q.2.1, q.2.2.calling g mk a⟩
def WdM (D : va_G) (cI cJ : ClassId) (ad : Nat → Nat) (M : Mm) (t : State) : Prop := va_P D vwCl (enc cI cJ ad M) t.heap
def QiW (D : va_G) (cI cJ : ClassId) (ad : Nat → Nat) (Q : Int32 → Mm → Prop) : Array Value → State → Outcome → State → Prop := va_Qi Q (WdM D cI cJ ad) (Fr ad)
def QlW (D : va_G) (cI cJ : ClassId) (ad : Nat → Nat) (Q : Int64 → Mm → Prop) : Array Value → State → Outcome → State → Prop := va_Ql Q (WdM D cI cJ ad) (Fr ad)
def QvW (D : va_G) (cI cJ : ClassId) (ad : Nat → Nat) (Q : Mm → Prop) : Array Value → State → Outcome → State → Prop := va_Qv Q (WdM D cI cJ ad) (Fr ad)
def nZ (v : Int32) : Prop := narrow .boolean (.int v) = .int v
def QzW (D : va_G) (cI cJ : ClassId) (ad : Nat → Nat) (Q : Int32 → Mm → Prop) : Array Value → State → Outcome → State → Prop := va_Qi (fun r M => nZ r ∧ Q r M) (WdM D cI cJ ad) (Fr ad)
abbrev CtI (l : Launch) (D : va_G) (cI cJ : ClassId) (ad : Nat → Nat) (y : MethodName) (ws : List Cond) (rm : Room) (av : List Value) (Q : Int32 → Mm → Prop) (M : Mm) : Prop := Met l y ws rm (PcW D cI cJ ad M av) (QiW D cI cJ ad Q) 0 0 (Fr ad)
abbrev CtZ (l : Launch) (D : va_G) (cI cJ : ClassId) (ad : Nat → Nat) (y : MethodName) (ws : List Cond) (rm : Room) (av : List Value) (Q : Int32 → Mm → Prop) (M : Mm) : Prop := Met l y ws rm (PcW D cI cJ ad M av) (QzW D cI cJ ad Q) 0 0 (Fr ad)
abbrev CtL (l : Launch) (D : va_G) (cI cJ : ClassId) (ad : Nat → Nat) (y : MethodName) (ws : List Cond) (rm : Room) (av : List Value) (Q : Int64 → Mm → Prop) (M : Mm) : Prop := Met l y ws rm (PcW D cI cJ ad M av) (QlW D cI cJ ad Q) 0 0 (Fr ad)
abbrev CtV (l : Launch) (D : va_G) (cI cJ : ClassId) (ad : Nat → Nat) (y : MethodName) (ws : List Cond) (rm : Room) (av : List Value) (Q : Mm → Prop) (M : Mm) : Prop := Met l y ws rm (PcW D cI cJ ad M av) (QvW D cI cJ ad Q) 0 0 (Fr ad)
section BASE
variable {p : Program} {l : Launch} {e : Env} {R : Room} {s : State} {m : MethodId} {args : Array Value} {below : List Frame} {meth : Method} {c : Code} {H : Heap} {locs : List Loc} {cells slots : Nat} {Q : State → Prop}
variable {cc : ByteArray} {pc nL : Nat} {ls : Array Slot} {rest st0 : List Value} {D : va_G} {cI cJ : ClassId} {ad : Nat → Nat} {H0 : Heap} {M : Mm} {Ts : List Cond} {own : String}
theorem entW {y : MethodName} {ws ws' : List Cond} {rm : Room} {av : List Value} {Qc : Array Value → State → Outcome → State → Prop} {maxL : Nat} {ret : Option FieldType} (hy : plainFor y = true) (hw : ws = Cond.code y cc maxL ret :: ws') (hlen : (lg_sl av).length ≤ maxL)
    (body : ∀ (p : Program) (e : Env) (s : State) (m : MethodId) (args : Array Value) (below : List Frame) (meth : Method) (c : Code) (ls : Array Slot), CallFix p m c cc maxL s args ws y.cls → KK D cI cJ s → meth.sig.returnType = ret → meth.locks = false → va_P D vwCl (enc cI cJ ad M) s.heap → va_S (Fr ad) s.heap s.heap [] → lv_has ls maxL (lv_args 0 av) → W p l e rm s m args below meth c s.heap [] 0 0 (MQ below Qc args s 0 0 (Fr ad)) (F0 m 0 ls [])) : Met l y ws rm (PcW D cI cJ ad M av) Qc 0 0 (Fr ad) := by
  refine va_MetF (cc := cc) (maxL := maxL) (ret := ret) hy hw ?_
  intro p e s m args below meth c s₁ B hml hv
  obtain ⟨rfl, hP, hK⟩ := hv
  have hl := lv_entry av (n := maxL) hlen
  rw [lg_entry_eq]
  exact body p e s m _ below meth c _ ⟨B.exec, B.bytes, hml, findClass_of_methodNamed B.named, atoms_spec (ws := ws) B.pre⟩ hK B.returns B.notSynchronized hP va_S.rf hl
theorem retI {Q : Int32 → Mm → Prop} {v : Int32} (S : CallFix p m c cc nL s args Ts own) (hr : meth.sig.returnType = some .int) (hlocks : meth.locks = false) (hP : va_P D vwCl (enc cI cJ ad M) H) (hS : va_S (Fr ad) s.heap H locs) (hF : Q v M) (hdg : decode cc pc = .ok (.ireturn, 1)) : W p l e R s m args below meth c H locs cells slots (MQ below (QiW D cI cJ ad Q) args s cells slots (Fr ad)) (F0 m pc ls [.int v]) :=
  W.iret (v := v) S.1 S.2.1 hr (fun t ht _ => ⟨⟨v, M, rfl, hF, by unfold WdM; rw [ht]; exact hP⟩, hS.F ht⟩) hS.2.2 hdg
theorem retZ {Q : Int32 → Mm → Prop} {v : Int32} (S : CallFix p m c cc nL s args Ts own) (hr : meth.sig.returnType = some .boolean) (hlocks : meth.locks = false) (hP : va_P D vwCl (enc cI cJ ad M) H) (hS : va_S (Fr ad) s.heap H locs) (hn : nZ v) (hF : Q v M) (hdg : decode cc pc = .ok (.ireturn, 1)) : W p l e R s m args below meth c H locs cells slots (MQ below (QzW D cI cJ ad Q) args s cells slots (Fr ad)) (F0 m pc ls [.int v]) :=
  W.zret (v := v) (ty := .boolean) S.1 S.2.1 hr hn (fun t ht _ => ⟨⟨v, M, rfl, ⟨hn, hF⟩, by unfold WdM; rw [ht]; exact hP⟩, hS.F ht⟩) hS.2.2 hdg
theorem retL {Q : Int64 → Mm → Prop} {v : Int64} (S : CallFix p m c cc nL s args Ts own) (hr : meth.sig.returnType = some .long) (hlocks : meth.locks = false) (hP : va_P D vwCl (enc cI cJ ad M) H) (hS : va_S (Fr ad) s.heap H locs) (hF : Q v M) (hdg : decode cc pc = .ok (.lreturn, 1)) : W p l e R s m args below meth c H locs cells slots (MQ below (QlW D cI cJ ad Q) args s cells slots (Fr ad)) (F0 m pc ls [.long v]) :=
  W.lret (v := v) S.1 S.2.1 hr (fun t ht _ => ⟨⟨v, M, rfl, hF, by unfold WdM; rw [ht]; exact hP⟩, hS.F ht⟩) hS.2.2 hdg
theorem retV {Q : Mm → Prop} (S : CallFix p m c cc nL s args Ts own) (hr : meth.sig.returnType = none) (hlocks : meth.locks = false) (hP : va_P D vwCl (enc cI cJ ad M) H) (hS : va_S (Fr ad) s.heap H locs) (hF : Q M) (hdg : decode cc pc = .ok (.return_, 1)) : W p l e R s m args below meth c H locs cells slots (MQ below (QvW D cI cJ ad Q) args s cells slots (Fr ad)) (F0 m pc ls []) :=
  W.vret S.1 S.2.1 hr (fun t ht _ => ⟨⟨M, rfl, hF, by unfold WdM; rw [ht]; exact hP⟩, hS.F ht⟩) hS.2.2 hdg
theorem gF {C : String} {T : u_T} {N ci index : Nat} (S : CallFix p m c cc nL s args Ts own) (hK : KK D cI cJ s) (hP : va_P D vwCl (enc cI cJ ad M) H) (hin : ∀ w ∈ u_ws C T N, w ∈ Ts) {q0 a : Nat} {fs : List Value} (he : (enc cI cJ ad M)[q0]? = some (a, .inr (ci, fs))) (hc : vwCl[ci]? = some (C, T, N)) (k : Nat) (hk : k < N) (hlink : (Cond.fieldLink own index (T k).1 (T k).2.1 (T k).2.2.1).before args s = true) {v : Value} (hv : fs[k]? = some v) (hdg : decode cc pc = .ok (.getfield index, 3))
    (kk : W p l e R s m args below meth c H locs cells slots Q (F0 m (pc + 3) ls (v :: rest))) : W p l e R s m args below meth c H locs cells slots Q (F0 m pc ls (.ref a :: rest)) :=
  va_get S.1 S.2.1 S.2.2.2.2 hin S.2.2.2.1 hK.1 hP q0 he hc k hk hlink (fun _ h => h) hv hdg kk
theorem gN {C host : String} {T : u_T} {N ci index : Nat} (S : CallFix p m c cc nL s args Ts own) (hK : KK D cI cJ s) (hP : va_P D vwCl (enc cI cJ ad M) H) (hin : ∀ w ∈ u_ws C T N, w ∈ Ts) {q0 a : Nat} {fs : List Value} (he : (enc cI cJ ad M)[q0]? = some (a, .inr (ci, fs))) (hc : vwCl[ci]? = some (C, T, N)) (k : Nat) (hk : k < N) (hlink : Cond.fieldLinkNest own index (T k).1 (T k).2.1 (T k).2.2.1 host ∈ nW) {v : Value} (hv : fs[k]? = some v) (hdg : decode cc pc = .ok (.getfield index, 3))
    (kk : W p l e R s m args below meth c H locs cells slots Q (F0 m (pc + 3) ls (v :: rest))) : W p l e R s m args below meth c H locs cells slots Q (F0 m pc ls (.ref a :: rest)) :=
  va_getN S.1 S.2.1 S.2.2.2.2 hin S.2.2.2.1 hK.1 hP q0 he hc k hk (va_Nw.use rfl (hK.2 _ hlink)) (fun _ h => h) hv hdg kk
theorem pF {C : String} {T : u_T} {N ci index : Nat} (S : CallFix p m c cc nL s args Ts own) (hK : KK D cI cJ s) (had : inj54 ad) (hP : va_P D vwCl (enc cI cJ ad M) H) (hS : va_S (Fr ad) H0 H locs) (hin : ∀ w ∈ u_ws C T N, w ∈ Ts) {ty0 : Nat → FieldType} (hty : ∀ k, k < N → parseFieldDescriptor (T k).2.2.1 = some (ty0 k)) (hnm : ∀ a, a < N → ∀ b, b < N → a ≠ b → (T a).2.1 ≠ (T b).2.1) {q0 a : Nat} {fs : List Value} (he : (enc cI cJ ad M)[q0]? = some (a, .inr (ci, fs))) (hc : vwCl[ci]? = some (C, T, N)) (k : Nat) (hk : k < N) (hlink : (Cond.fieldLink own index (T k).1 (T k).2.1 (T k).2.2.1).before args s = true) (hfin : (T k).2.2.2 = false) {v : Value} (hn : narrow (ty0 k) v = v) (hfit : fits (ty0 k) v = true) (hl : k < fs.length) {M2 : Mm} (hset : (enc cI cJ ad M).set q0 (a, .inr (ci, fs.set k v)) = enc cI cJ ad M2) (hdg : decode cc pc = .ok (.putfield index, 3))
    (kk : ∀ (M3 : Mm) (H1 : Heap) (locs1 : List Loc), M3 = M2 → va_P D vwCl (enc cI cJ ad M3) H1 → va_S (Fr ad) H0 H1 locs1 → W p l e R s m args below meth c H1 locs1 cells slots Q (F0 m (pc + 3) ls rest)) : W p l e R s m args below meth c H locs cells slots Q (F0 m pc ls (v :: .ref a :: rest)) :=
  va_put S.1 S.2.1 S.2.2.2.2 hin ty0 hty hnm S.2.2.2.1 hK.1 hP (enc_D had M) hS q0 he hc k hk hlink (fun _ h => h) hfin (hty k hk) hn hfit hl hdg (fun H1 l1 h1 _ h3 => kk M2 H1 l1 rfl (by rw [← hset]; exact h1) h3)
theorem pN {C host : String} {T : u_T} {N ci index : Nat} (S : CallFix p m c cc nL s args Ts own) (hK : KK D cI cJ s) (had : inj54 ad) (hP : va_P D vwCl (enc cI cJ ad M) H) (hS : va_S (Fr ad) H0 H locs) (hin : ∀ w ∈ u_ws C T N, w ∈ Ts) {ty0 : Nat → FieldType} (hty : ∀ k, k < N → parseFieldDescriptor (T k).2.2.1 = some (ty0 k)) (hnm : ∀ a, a < N → ∀ b, b < N → a ≠ b → (T a).2.1 ≠ (T b).2.1) {q0 a : Nat} {fs : List Value} (he : (enc cI cJ ad M)[q0]? = some (a, .inr (ci, fs))) (hc : vwCl[ci]? = some (C, T, N)) (k : Nat) (hk : k < N) (hlink : Cond.fieldLinkNest own index (T k).1 (T k).2.1 (T k).2.2.1 host ∈ nW) (hfin : (T k).2.2.2 = false) {v : Value} (hn : narrow (ty0 k) v = v) (hfit : fits (ty0 k) v = true) (hl : k < fs.length) {M2 : Mm} (hset : (enc cI cJ ad M).set q0 (a, .inr (ci, fs.set k v)) = enc cI cJ ad M2) (hdg : decode cc pc = .ok (.putfield index, 3))
    (kk : ∀ (M3 : Mm) (H1 : Heap) (locs1 : List Loc), M3 = M2 → va_P D vwCl (enc cI cJ ad M3) H1 → va_S (Fr ad) H0 H1 locs1 → W p l e R s m args below meth c H1 locs1 cells slots Q (F0 m (pc + 3) ls rest)) : W p l e R s m args below meth c H locs cells slots Q (F0 m pc ls (v :: .ref a :: rest)) :=
  va_putN S.1 S.2.1 S.2.2.2.2 hin ty0 hty hnm S.2.2.2.1 hK.1 hP (enc_D had M) hS q0 he hc k hk (va_Nw.use rfl (hK.2 _ hlink)) (fun _ h => h) hfin (hty k hk) hn hfit hl hdg (fun H1 l1 h1 _ h3 => kk M2 H1 l1 rfl (by rw [← hset]; exact h1) h3)
theorem alA (S : CallFix p m c cc nL s args Ts own) (hK : KK D cI cJ s) (hP : va_P D vwCl (enc cI cJ ad M) H) {k : Nat} (h : isA k = true) (hdg : decode cc pc = .ok (.arraylength, 1)) (kk : W p l e R s m args below meth c H locs cells slots Q (F0 m (pc + 1) ls (.int (Int32.ofNat (lenA k)) :: rest))) : W p l e R s m args below meth c H locs cells slots Q (F0 m pc ls (.ref (ad k) :: rest)) := va_alen S.1 S.2.1 hK.1 hP k 0 (eA h) rfl rfl hdg kk
theorem alB (S : CallFix p m c cc nL s args Ts own) (hK : KK D cI cJ s) (hP : va_P D vwCl (enc cI cJ ad M) H) {k : Nat} (h : isB k = true) (hdg : decode cc pc = .ok (.arraylength, 1)) (kk : W p l e R s m args below meth c H locs cells slots Q (F0 m (pc + 1) ls (.int (Int32.ofNat (lenA k)) :: rest))) : W p l e R s m args below meth c H locs cells slots Q (F0 m pc ls (.ref (ad k) :: rest)) := va_alen S.1 S.2.1 hK.1 hP k 1 (eB h) rfl rfl hdg kk
theorem ldA (S : CallFix p m c cc nL s args Ts own) (hK : KK D cI cJ s) (hP : va_P D vwCl (enc cI cJ ad M) H) {k : Nat} (h : isA k = true) {i : Int32} (hin : vp_in i (lenA k)) (hdg : decode cc pc = .ok (.iaload, 1)) (kk : W p l e R s m args below meth c H locs cells slots Q (F0 m (pc + 1) ls (.int (ga M k i.toNatClampNeg) :: rest))) : W p l e R s m args below meth c H locs cells slots Q (F0 m pc ls (.int i :: .ref (ad k) :: rest)) := va_iald S.1 S.2.1 hK.1 hP k 0 (eA h) rfl hin hdg kk
theorem ldB (S : CallFix p m c cc nL s args Ts own) (hK : KK D cI cJ s) (hP : va_P D vwCl (enc cI cJ ad M) H) {k : Nat} (h : isB k = true) {i : Int32} (hin : vp_in i (lenA k)) (hdg : decode cc pc = .ok (.laload, 1)) (kk : W p l e R s m args below meth c H locs cells slots Q (F0 m (pc + 1) ls (.long (gb M k i.toNatClampNeg) :: rest))) : W p l e R s m args below meth c H locs cells slots Q (F0 m pc ls (.int i :: .ref (ad k) :: rest)) := va_lald S.1 S.2.1 hK.1 hP k 1 (eB h) rfl hin hdg kk
theorem stA (S : CallFix p m c cc nL s args Ts own) (hK : KK D cI cJ s) (had : inj54 ad) (hP : va_P D vwCl (enc cI cJ ad M) H) (hS : va_S (Fr ad) H0 H locs) {k : Nat} (h : isA k = true) {i x : Int32} (hin : vp_in i (lenA k)) (hdg : decode cc pc = .ok (.iastore, 1)) (kk : ∀ (M3 : Mm) (H1 : Heap) (locs1 : List Loc), M3 = (sa M k (upd (ga M k) i.toNatClampNeg x)) → va_P D vwCl (enc cI cJ ad M3) H1 → va_S (Fr ad) H0 H1 locs1 → W p l e R s m args below meth c H1 locs1 cells slots Q (F0 m (pc + 1) ls rest)) : W p l e R s m args below meth c H locs cells slots Q (F0 m pc ls (.int x :: .int i :: .ref (ad k) :: rest)) :=
  va_iast S.1 S.2.1 hK.1 hP (enc_D had M) hS k 0 (eA h) rfl hin hdg (fun H1 l1 h1 _ h3 => kk _ H1 l1 rfl (by rw [← sA h]; exact h1) h3)
theorem stB (S : CallFix p m c cc nL s args Ts own) (hK : KK D cI cJ s) (had : inj54 ad) (hP : va_P D vwCl (enc cI cJ ad M) H) (hS : va_S (Fr ad) H0 H locs) {k : Nat} (h : isB k = true) {i : Int32} {x : Int64} (hin : vp_in i (lenA k)) (hdg : decode cc pc = .ok (.lastore, 1)) (kk : ∀ (M3 : Mm) (H1 : Heap) (locs1 : List Loc), M3 = (sb M k (vp_updL (gb M k) i.toNatClampNeg x)) → va_P D vwCl (enc cI cJ ad M3) H1 → va_S (Fr ad) H0 H1 locs1 → W p l e R s m args below meth c H1 locs1 cells slots Q (F0 m (pc + 1) ls rest)) : W p l e R s m args below meth c H locs cells slots Q (F0 m pc ls (.long x :: .int i :: .ref (ad k) :: rest)) :=
  va_last S.1 S.2.1 hK.1 hP (enc_D had M) hS k 1 (eB h) rfl hin hdg (fun H1 l1 h1 _ h3 => kk _ H1 l1 rfl (by rw [← sB h]; exact h1) h3)
variable {y : MethodName} {bytes : ByteArray} {maxL n index : Nat} {ret : Option FieldType} {ws : List Cond} {rm : Room} {Qc : Array Value → State → Outcome → State → Prop} {b : Addr} {As : List Value} {C : String}
abbrev RunW (p : Program) (l : Launch) (e : Env) (R : Room) (s : State) (m : MethodId) (args : Array Value) (below : List Frame) (meth : Method) (c : Code) (H : Heap) (locs : List Loc) (cells slots : Nat) (g : JFrame) (rest : List Value) (Qa : State → Outcome → State → Prop) (free : Addr → Prop) : Prop := va_Run p l e R s m args below meth c H locs cells slots 0 0 g rest Qa free
theorem rV {ci q0 : Nat} {T : u_T} {N : Nat} {fs : List Value} (S : CallFix p m c cc nL s args Ts own) (hK : KK D cI cJ s) (hP : va_P D vwCl (enc cI cJ ad M) H) (hM : Met l y ws rm (PcW D cI cJ ad M (.ref b :: As)) Qc 0 0 (Fr ad)) (cw : CallW R s args own C index y bytes maxL ret ws rm 0 0 n) (he : (enc cI cJ ad M)[q0]? = some (b, .inr (ci, fs))) (hc : vwCl[ci]? = some (C, T, N)) (hn : As.length = n) (hl : ls.size = nL) (hst : st0 = As.reverse ++ .ref b :: rest) (hrm : (rest.map fun v => v.category).sum ≤ 8) (hdg : decode cc pc = .ok (.invokevirtual index, 3)) (hf : cells ≤ R.cells ∧ slots ≤ R.slots) :
    RunW p l e R s m args below meth c H locs cells slots (F0 m pc ls st0) rest (Qc (Value.ref b :: As).toArray) (Fr ad) :=
  va_runV S hM cw ⟨PcW.blind, va_recv hK.1 hP hc he, fun U hU hW => ⟨rfl, by rw [hU]; exact hP, hK.warm hW⟩⟩ rfl hn hl hst (lv_room (m := m) (pc := pc) (ls := ls) (rest := st0) hrm) hdg hf
theorem rS (S : CallFix p m c cc nL s args Ts own) (hK : KK D cI cJ s) (hP : va_P D vwCl (enc cI cJ ad M) H) (hM : Met l y ws rm (PcW D cI cJ ad M As) Qc 0 0 (Fr ad)) (cw : CallB R s args own index y bytes maxL ret ws rm 0 0 n ∧ (Cond.static y).before args s = true) (hn : As.length = n) (hl : ls.size = nL) (hst : st0 = As.reverse ++ rest) (hrm : (rest.map fun v => v.category).sum ≤ 8) (hdg : decode cc pc = .ok (.invokestatic index, 3)) (hf : cells ≤ R.cells ∧ slots ≤ R.slots) :
    RunW p l e R s m args below meth c H locs cells slots (F0 m pc ls st0) rest (Qc As.toArray) (Fr ad) :=
  va_runS S hM cw ⟨PcW.blind, fun U hU hW => ⟨rfl, by rw [hU]; exact hP, hK.warm hW⟩⟩ rfl hn hl hst (lv_room (m := m) (pc := pc) (ls := ls) (rest := st0) hrm) hdg hf
theorem rSN {host : String} (S : CallFix p m c cc nL s args Ts own) (hK : KK D cI cJ s) (hP : va_P D vwCl (enc cI cJ ad M) H) (hM : Met l y ws rm (PcW D cI cJ ad M As) Qc 0 0 (Fr ad)) (cw : va_CN R s args own index y host bytes maxL ret ws rm 0 0 n ∧ (Cond.static y).before args s = true ∧ True) (hn : As.length = n) (hl : ls.size = nL) (hst : st0 = As.reverse ++ rest) (hrm : (rest.map fun v => v.category).sum ≤ 8) (hdg : decode cc pc = .ok (.invokestatic index, 3)) (hf : cells ≤ R.cells ∧ slots ≤ R.slots) :
    RunW p l e R s m args below meth c H locs cells slots (F0 m pc ls st0) rest (Qc As.toArray) (Fr ad) :=
  va_runSN S hM cw ⟨PcW.blind, fun U hU hW => ⟨rfl, by rw [hU]; exact hP, hK.warm hW⟩⟩ rfl hn hl hst (lv_room (m := m) (pc := pc) (ls := ls) (rest := st0) hrm) hdg hf
variable {a : Array Value}
theorem goI {Qr : Int32 → Mm → Prop} (hr : RunW p l e R s m args below meth c H locs cells slots (F0 m pc ls st0) rest (QiW D cI cJ ad Qr a) (Fr ad)) {A0 : Nat → Prop} (hS : va_S A0 H0 H locs) (hFA : ∀ q, Fr ad q → A0 q)
    (kk : ∀ (r : Int32) (M1 : Mm) (H1 : Heap) (locs1 : List Loc), va_P D vwCl (enc cI cJ ad M1) H1 → va_S A0 H0 H1 locs1 → Qr r M1 → W p l e R s m args below meth c H1 locs1 cells slots Q (F0 m (pc + 3) ls (.int r :: rest))) : W p l e R s m args below meth c H locs cells slots Q (F0 m pc ls st0) :=
  va_calli hr hS (fun q _ h => hFA q h) hFA (fun r u t H1 l1 ht _ hp hb _ _ hS1 => kk r u H1 l1 (by rw [← ht]; exact hb) hS1 hp)
theorem goZ {Qr : Int32 → Mm → Prop} (hr : RunW p l e R s m args below meth c H locs cells slots (F0 m pc ls st0) rest (QzW D cI cJ ad Qr a) (Fr ad)) {A0 : Nat → Prop} (hS : va_S A0 H0 H locs) (hFA : ∀ q, Fr ad q → A0 q)
    (kk : ∀ (r : Int32) (M1 : Mm) (H1 : Heap) (locs1 : List Loc), va_P D vwCl (enc cI cJ ad M1) H1 → va_S A0 H0 H1 locs1 → nZ r → Qr r M1 → W p l e R s m args below meth c H1 locs1 cells slots Q (F0 m (pc + 3) ls (.int r :: rest))) : W p l e R s m args below meth c H locs cells slots Q (F0 m pc ls st0) :=
  va_calli hr hS (fun q _ h => hFA q h) hFA (fun r u t H1 l1 ht _ hp hb _ _ hS1 => kk r u H1 l1 (by rw [← ht]; exact hb) hS1 hp.1 hp.2)
theorem goL {Qr : Int64 → Mm → Prop} (hr : RunW p l e R s m args below meth c H locs cells slots (F0 m pc ls st0) rest (QlW D cI cJ ad Qr a) (Fr ad)) {A0 : Nat → Prop} (hS : va_S A0 H0 H locs) (hFA : ∀ q, Fr ad q → A0 q)
    (kk : ∀ (r : Int64) (M1 : Mm) (H1 : Heap) (locs1 : List Loc), va_P D vwCl (enc cI cJ ad M1) H1 → va_S A0 H0 H1 locs1 → Qr r M1 → W p l e R s m args below meth c H1 locs1 cells slots Q (F0 m (pc + 3) ls (.long r :: rest))) : W p l e R s m args below meth c H locs cells slots Q (F0 m pc ls st0) :=
  va_calll hr hS (fun q _ h => hFA q h) hFA (fun r u t H1 l1 ht _ hp hb _ _ hS1 => kk r u H1 l1 (by rw [← ht]; exact hb) hS1 hp)
theorem goV {Qr : Mm → Prop} (hr : RunW p l e R s m args below meth c H locs cells slots (F0 m pc ls st0) rest (QvW D cI cJ ad Qr a) (Fr ad)) {A0 : Nat → Prop} (hS : va_S A0 H0 H locs) (hFA : ∀ q, Fr ad q → A0 q)
    (kk : ∀ (M1 : Mm) (H1 : Heap) (locs1 : List Loc), va_P D vwCl (enc cI cJ ad M1) H1 → va_S A0 H0 H1 locs1 → Qr M1 → W p l e R s m args below meth c H1 locs1 cells slots Q (F0 m (pc + 3) ls rest)) : W p l e R s m args below meth c H locs cells slots Q (F0 m pc ls st0) :=
  va_callv hr hS (fun q _ h => hFA q h) hFA (fun u t H1 l1 ht _ hp hb _ _ hS1 => kk u H1 l1 (by rw [← ht]; exact hb) hS1 hp)
end BASE
theorem lc_eq {x y : Int64} : lg_cmp x y = 0 ↔ x = y := by
  unfold lg_cmp; by_cases h1 : y < x
  · have : x ≠ y := fun q => by subst q; exact absurd h1 Int64.lt_irrefl
    simp [h1, this]
  · by_cases h2 : x = y <;> simp [h1, h2]
theorem lc_lt {x y : Int64} : lg_cmp x y < 0 ↔ x < y := by
  unfold lg_cmp; by_cases h1 : y < x
  · have : ¬ x < y := fun q => absurd (Int64.lt_trans h1 q) Int64.lt_irrefl
    simp [h1, this]
  · by_cases h2 : x = y
    · subst h2; simp [h1]
    · have : x < y := Int64.lt_of_le_of_ne (Int64.not_lt.mp h1) h2
      simp [h1, h2, this]
theorem lc_gt {x y : Int64} : 0 < lg_cmp x y ↔ y < x := by
  unfold lg_cmp; by_cases h1 : y < x
  · simp [h1]
  · by_cases h2 : x = y <;> simp [h1, h2]
theorem lc_ge {x y : Int64} : 0 ≤ lg_cmp x y ↔ y ≤ x := by
  rw [← Int32.not_lt, lc_lt, Int64.not_lt]
theorem lc_le {x y : Int64} : lg_cmp x y ≤ 0 ↔ x ≤ y := by
  rw [← Int32.not_lt, lc_gt, Int64.not_lt]
