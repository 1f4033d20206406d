abbrev WcL (p : Program) (l : Launch) (e : Env) (s : State) (m : MethodId) (b : Nat) (below : List Frame) (meth : Method) (c : Code) (D : va_G) (cI cJ : ClassId) (ad : Nat → Nat) (pc : Nat) (lv : List (Nat × Value)) (M : Mm) : Prop := ∀ (H : Heap) (locs : List Loc) (ls : Array Slot), va_P D vwCl (enc cI cJ ad M) H → va_S (fun q => s.heap.size ≤ q) s.heap H locs → lv_has ls 4 lv → W p l e room_1 s m #[Value.ref b] below meth c H locs 54 1141 (lw_Z below #[Value.ref b] s) (F0 m pc ls [])
theorem lawEnd {p : Program} {l : Launch} {e : Env} {s : State} {m : MethodId} {below : List Frame} {meth : Method} {c : Code} {b : Nat} (hx : p.tables.exec = Jvm.exec) (hb : c.code = code) (hr : meth.sig.returnType = ret) (hlocks : meth.locks = false) {pc : Nat} {H : Heap} {locs : List Loc} {ls : Array Slot} (hS : va_S (fun q => s.heap.size ≤ q) s.heap H locs) (hdg : decode code pc = .ok (.ireturn, 1)) : W p l e room_1 s m #[Value.ref b] below meth c H locs 54 1141 (lw_Z below #[Value.ref b] s) (F0 m pc ls [.int 1]) :=
  va_forget (fun q hq => hS.2.2 q hq) (lw_ret hx hb hr hlocks hdg)
def bL_law_18 (Ls : Nat) (xs : Nat → Int32) (J_18 : Int32 → Mm → Prop) (x3_18 : Int32) (m18 : Mm) : Prop := ((((Int32.ofNat Ls) - (5 : Int32)) < x3_18 → ((1 : Int32) = (1 : Int32))) ∧ (¬ ((Int32.ofNat Ls) - (5 : Int32)) < x3_18 → (vp_in x3_18 Ls ∧ ((((xs x3_18.toNatClampNeg) &&& (63 : Int32)) = 0 → (vp_in (x3_18 + (1 : Int32)) Ls ∧ (vp_in (x3_18 + (2 : Int32)) Ls ∧ (vp_in (x3_18 + (3 : Int32)) Ls ∧ (vp_in (x3_18 + (4 : Int32)) Ls ∧ (wX6_place (xs (x3_18 + (1 : Int32)).toNatClampNeg) (xs (x3_18 + (2 : Int32)).toNatClampNeg) (xs (x3_18 + (3 : Int32)).toNatClampNeg) (xs (x3_18 + (4 : Int32)).toNatClampNeg) (fun r_8 M_8 => (vp_in (x3_18 + (1 : Int32)) Ls ∧ (vp_in (x3_18 + (2 : Int32)) Ls ∧ (vp_in (x3_18 + (3 : Int32)) Ls ∧ (vp_in (x3_18 + (4 : Int32)) Ls ∧ (wX7_place (xs (x3_18 + (1 : Int32)).toNatClampNeg) (xs (x3_18 + (2 : Int32)).toNatClampNeg) (xs (x3_18 + (3 : Int32)).toNatClampNeg) (xs (x3_18 + (4 : Int32)).toNatClampNeg) (fun r_13 M_13 => ((r_8 = r_13 → (J_18 (x3_18 + 5) M_13)) ∧ (¬ r_8 = r_13 → ((0 : Int32) = (1 : Int32))))) M_8)))))) m18)))))) ∧ (¬ ((xs x3_18.toNatClampNeg) &&& (63 : Int32)) = 0 → ((((xs x3_18.toNatClampNeg) &&& (63 : Int32)) = 1 → (vp_in (x3_18 + (1 : Int32)) Ls ∧ (wX6_about (xs (x3_18 + (1 : Int32)).toNatClampNeg) (fun r_17 M_17 => (vp_in (x3_18 + (1 : Int32)) Ls ∧ (wX7_about (xs (x3_18 + (1 : Int32)).toNatClampNeg) (fun r_19 M_19 => ((r_17 = r_19 → (J_18 (x3_18 + 5) M_19)) ∧ (¬ r_17 = r_19 → ((0 : Int32) = (1 : Int32))))) M_17))) m18))) ∧ (¬ ((xs x3_18.toNatClampNeg) &&& (63 : Int32)) = 1 → ((((xs x3_18.toNatClampNeg) &&& (63 : Int32)) = 2 → (vp_in (x3_18 + (1 : Int32)) Ls ∧ (vp_in (x3_18 + (2 : Int32)) Ls ∧ (wX6_ofSort (xs (x3_18 + (1 : Int32)).toNatClampNeg) (xs (x3_18 + (2 : Int32)).toNatClampNeg) (fun r_24 M_24 => (vp_in (x3_18 + (1 : Int32)) Ls ∧ (vp_in (x3_18 + (2 : Int32)) Ls ∧ (wX7_ofSort (xs (x3_18 + (1 : Int32)).toNatClampNeg) (xs (x3_18 + (2 : Int32)).toNatClampNeg) (fun r_27 M_27 => ((r_24 = r_27 → (J_18 (x3_18 + 5) M_27)) ∧ (¬ r_24 = r_27 → ((0 : Int32) = (1 : Int32))))) M_24)))) m18)))) ∧ (¬ ((xs x3_18.toNatClampNeg) &&& (63 : Int32)) = 2 → ((((xs x3_18.toNatClampNeg) &&& (63 : Int32)) = 3 → (vp_in (x3_18 + (1 : Int32)) Ls ∧ (vp_in (x3_18 + (2 : Int32)) Ls ∧ (wX6_bar (xs (x3_18 + (1 : Int32)).toNatClampNeg) (xs (x3_18 + (2 : Int32)).toNatClampNeg) (fun r_32 M_32 => (vp_in (x3_18 + (1 : Int32)) Ls ∧ (vp_in (x3_18 + (2 : Int32)) Ls ∧ (wX7_bar (xs (x3_18 + (1 : Int32)).toNatClampNeg) (xs (x3_18 + (2 : Int32)).toNatClampNeg) (fun r_35 M_35 => ((r_32 = r_35 → (J_18 (x3_18 + 5) M_35)) ∧ (¬ r_32 = r_35 → ((0 : Int32) = (1 : Int32))))) M_32)))) m18)))) ∧ (¬ ((xs x3_18.toNatClampNeg) &&& (63 : Int32)) = 3 → ((((xs x3_18.toNatClampNeg) &&& (63 : Int32)) = 4 → (vp_in (x3_18 + (1 : Int32)) Ls ∧ (wX6_toll (xs (x3_18 + (1 : Int32)).toNatClampNeg) (fun r_39 M_39 => (vp_in (x3_18 + (1 : Int32)) Ls ∧ (wX7_toll (xs (x3_18 + (1 : Int32)).toNatClampNeg) (fun r_41 M_41 => ((r_39 = r_41 → (J_18 (x3_18 + 5) M_41)) ∧ (¬ r_39 = r_41 → ((0 : Int32) = (1 : Int32))))) M_39))) m18))) ∧ (¬ ((xs x3_18.toNatClampNeg) &&& (63 : Int32)) = 4 → ((((xs x3_18.toNatClampNeg) &&& (63 : Int32)) = 5 → (vp_in (x3_18 + (1 : Int32)) Ls ∧ (vp_in (x3_18 + (2 : Int32)) Ls ∧ (wX6_board (xs (x3_18 + (1 : Int32)).toNatClampNeg) (xs (x3_18 + (2 : Int32)).toNatClampNeg) (fun r_46 M_46 => (vp_in (x3_18 + (1 : Int32)) Ls ∧ (vp_in (x3_18 + (2 : Int32)) Ls ∧ (wX7_board (xs (x3_18 + (1 : Int32)).toNatClampNeg) (xs (x3_18 + (2 : Int32)).toNatClampNeg) (fun r_49 M_49 => ((r_46 = r_49 → (J_18 (x3_18 + 5) M_49)) ∧ (¬ r_46 = r_49 → ((0 : Int32) = (1 : Int32))))) M_46)))) m18)))) ∧ (¬ ((xs x3_18.toNatClampNeg) &&& (63 : Int32)) = 5 → ((((xs x3_18.toNatClampNeg) &&& (63 : Int32)) = 6 → (vp_in (x3_18 + (1 : Int32)) Ls ∧ (wX6_bars (xs (x3_18 + (1 : Int32)).toNatClampNeg) (fun r_53 M_53 => (vp_in (x3_18 + (1 : Int32)) Ls ∧ (wX7_bars (xs (x3_18 + (1 : Int32)).toNatClampNeg) (fun r_55 M_55 => ((r_53 = r_55 → (J_18 (x3_18 + 5) M_55)) ∧ (¬ r_53 = r_55 → ((0 : Int32) = (1 : Int32))))) M_53))) m18))) ∧ (¬ ((xs x3_18.toNatClampNeg) &&& (63 : Int32)) = 6 → ((((xs x3_18.toNatClampNeg) &&& (63 : Int32)) = 7 → (vp_in (x3_18 + (1 : Int32)) Ls ∧ (vp_in (x3_18 + (2 : Int32)) Ls ∧ (wX6_often (xs (x3_18 + (1 : Int32)).toNatClampNeg) (xs (x3_18 + (2 : Int32)).toNatClampNeg) (fun r_60 M_60 => (vp_in (x3_18 + (1 : Int32)) Ls ∧ (vp_in (x3_18 + (2 : Int32)) Ls ∧ (wX7_often (xs (x3_18 + (1 : Int32)).toNatClampNeg) (xs (x3_18 + (2 : Int32)).toNatClampNeg) (fun r_63 M_63 => ((r_60 = r_63 → (J_18 (x3_18 + 5) M_63)) ∧ (¬ r_60 = r_63 → ((0 : Int32) = (1 : Int32))))) M_60)))) m18)))) ∧ (¬ ((xs x3_18.toNatClampNeg) &&& (63 : Int32)) = 7 → ((((xs x3_18.toNatClampNeg) &&& (63 : Int32)) = 8 → (vp_in (x3_18 + (1 : Int32)) Ls ∧ (wX6_mean (xs (x3_18 + (1 : Int32)).toNatClampNeg) (fun r_67 M_67 => (vp_in (x3_18 + (1 : Int32)) Ls ∧ (wX7_mean (xs (x3_18 + (1 : Int32)).toNatClampNeg) (fun r_69 M_69 => ((r_67 = r_69 → (J_18 (x3_18 + 5) M_69)) ∧ (¬ r_67 = r_69 → ((0 : Int32) = (1 : Int32))))) M_67))) m18))) ∧ (¬ ((xs x3_18.toNatClampNeg) &&& (63 : Int32)) = 8 → ((((xs x3_18.toNatClampNeg) &&& (63 : Int32)) = 9 → (vp_in (x3_18 + (1 : Int32)) Ls ∧ (vp_in (x3_18 + (2 : Int32)) Ls ∧ (wX6_on (xs (x3_18 + (1 : Int32)).toNatClampNeg) (xs (x3_18 + (2 : Int32)).toNatClampNeg) (fun r_74 M_74 => (vp_in (x3_18 + (1 : Int32)) Ls ∧ (vp_in (x3_18 + (2 : Int32)) Ls ∧ (wX7_on (xs (x3_18 + (1 : Int32)).toNatClampNeg) (xs (x3_18 + (2 : Int32)).toNatClampNeg) (fun r_77 M_77 => ((r_74 = r_77 → (J_18 (x3_18 + 5) M_77)) ∧ (¬ r_74 = r_77 → ((0 : Int32) = (1 : Int32))))) M_74)))) m18)))) ∧ (¬ ((xs x3_18.toNatClampNeg) &&& (63 : Int32)) = 9 → ((((xs x3_18.toNatClampNeg) &&& (63 : Int32)) = 10 → (vp_in (x3_18 + (1 : Int32)) Ls ∧ (vp_in (x3_18 + (2 : Int32)) Ls ∧ (wX6_less (xs (x3_18 + (1 : Int32)).toNatClampNeg) (xs (x3_18 + (2 : Int32)).toNatClampNeg) (fun r_82 M_82 => (vp_in (x3_18 + (1 : Int32)) Ls ∧ (vp_in (x3_18 + (2 : Int32)) Ls ∧ (wX7_less (xs (x3_18 + (1 : Int32)).toNatClampNeg) (xs (x3_18 + (2 : Int32)).toNatClampNeg) (fun r_85 M_85 => ((r_82 = r_85 → (J_18 (x3_18 + 5) M_85)) ∧ (¬ r_82 = r_85 → ((0 : Int32) = (1 : Int32))))) M_82)))) m18)))) ∧ (¬ ((xs x3_18.toNatClampNeg) &&& (63 : Int32)) = 10 → ((((xs x3_18.toNatClampNeg) &&& (63 : Int32)) = 11 → (vp_in (x3_18 + (1 : Int32)) Ls ∧ (vp_in (x3_18 + (2 : Int32)) Ls ∧ (vp_in (x3_18 + (3 : Int32)) Ls ∧ (vp_in (x3_18 + (4 : Int32)) Ls ∧ (wX6_after (xs (x3_18 + (1 : Int32)).toNatClampNeg) (xs (x3_18 + (2 : Int32)).toNatClampNeg) (xs (x3_18 + (3 : Int32)).toNatClampNeg) (xs (x3_18 + (4 : Int32)).toNatClampNeg) (fun r_92 M_92 => (vp_in (x3_18 + (1 : Int32)) Ls ∧ (vp_in (x3_18 + (2 : Int32)) Ls ∧ (vp_in (x3_18 + (3 : Int32)) Ls ∧ (vp_in (x3_18 + (4 : Int32)) Ls ∧ (wX7_after (xs (x3_18 + (1 : Int32)).toNatClampNeg) (xs (x3_18 + (2 : Int32)).toNatClampNeg) (xs (x3_18 + (3 : Int32)).toNatClampNeg) (xs (x3_18 + (4 : Int32)).toNatClampNeg) (fun r_97 M_97 => ((r_92 = r_97 → (J_18 (x3_18 + 5) M_97)) ∧ (¬ r_92 = r_97 → ((0 : Int32) = (1 : Int32))))) M_92)))))) m18)))))) ∧ (¬ ((xs x3_18.toNatClampNeg) &&& (63 : Int32)) = 11 → ((((xs x3_18.toNatClampNeg) &&& (63 : Int32)) = 12 → (vp_in (x3_18 + (1 : Int32)) Ls ∧ (vp_in (x3_18 + (2 : Int32)) Ls ∧ (wX6_minutes (xs (x3_18 + (1 : Int32)).toNatClampNeg) (xs (x3_18 + (2 : Int32)).toNatClampNeg) (fun r_102 M_102 => (vp_in (x3_18 + (1 : Int32)) Ls ∧ (vp_in (x3_18 + (2 : Int32)) Ls ∧ (wX7_minutes (xs (x3_18 + (1 : Int32)).toNatClampNeg) (xs (x3_18 + (2 : Int32)).toNatClampNeg) (fun r_105 M_105 => ((r_102 = r_105 → (J_18 (x3_18 + 5) M_105)) ∧ (¬ r_102 = r_105 → ((0 : Int32) = (1 : Int32))))) M_102)))) m18)))) ∧ (¬ ((xs x3_18.toNatClampNeg) &&& (63 : Int32)) = 12 → ((((xs x3_18.toNatClampNeg) &&& (63 : Int32)) = 13 → (vp_in (x3_18 + (1 : Int32)) Ls ∧ (wX6_gain (xs (x3_18 + (1 : Int32)).toNatClampNeg) (fun r_109 M_109 => (vp_in (x3_18 + (1 : Int32)) Ls ∧ (wX7_gain (xs (x3_18 + (1 : Int32)).toNatClampNeg) (fun r_111 M_111 => ((r_109 = r_111 → (J_18 (x3_18 + 5) M_111)) ∧ (¬ r_109 = r_111 → ((0 : Int32) = (1 : Int32))))) M_109))) m18))) ∧ (¬ ((xs x3_18.toNatClampNeg) &&& (63 : Int32)) = 13 → ((((xs x3_18.toNatClampNeg) &&& (63 : Int32)) = 14 → (vp_in (x3_18 + (1 : Int32)) Ls ∧ (wX6_best (xs (x3_18 + (1 : Int32)).toNatClampNeg) (fun r_115 M_115 => (vp_in (x3_18 + (1 : Int32)) Ls ∧ (wX7_best (xs (x3_18 + (1 : Int32)).toNatClampNeg) (fun r_117 M_117 => ((r_115 = r_117 → (J_18 (x3_18 + 5) M_117)) ∧ (¬ r_115 = r_117 → ((0 : Int32) = (1 : Int32))))) M_115))) m18))) ∧ (¬ ((xs x3_18.toNatClampNeg) &&& (63 : Int32)) = 14 → ((((xs x3_18.toNatClampNeg) &&& (63 : Int32)) = 15 → (vp_in (x3_18 + (1 : Int32)) Ls ∧ (vp_in (x3_18 + (2 : Int32)) Ls ∧ (wX6_against (xs (x3_18 + (1 : Int32)).toNatClampNeg) (xs (x3_18 + (2 : Int32)).toNatClampNeg) (fun r_122 M_122 => (vp_in (x3_18 + (1 : Int32)) Ls ∧ (vp_in (x3_18 + (2 : Int32)) Ls ∧ (wX7_against (xs (x3_18 + (1 : Int32)).toNatClampNeg) (xs (x3_18 + (2 : Int32)).toNatClampNeg) (fun r_125 M_125 => ((r_122 = r_125 → (J_18 (x3_18 + 5) M_125)) ∧ (¬ r_122 = r_125 → ((0 : Int32) = (1 : Int32))))) M_122)))) m18)))) ∧ (¬ ((xs x3_18.toNatClampNeg) &&& (63 : Int32)) = 15 → ((((xs x3_18.toNatClampNeg) &&& (63 : Int32)) = 16 → (vp_in (x3_18 + (1 : Int32)) Ls ∧ (wX6_mends (xs (x3_18 + (1 : Int32)).toNatClampNeg) (fun r_129 M_129 => (vp_in (x3_18 + (1 : Int32)) Ls ∧ (wX7_mends (xs (x3_18 + (1 : Int32)).toNatClampNeg) (fun r_131 M_131 => ((r_129 = r_131 → (J_18 (x3_18 + 5) M_131)) ∧ (¬ r_129 = r_131 → ((0 : Int32) = (1 : Int32))))) M_129))) m18))) ∧ (¬ ((xs x3_18.toNatClampNeg) &&& (63 : Int32)) = 16 → ((((xs x3_18.toNatClampNeg) &&& (63 : Int32)) = 17 → (vp_in (x3_18 + (1 : Int32)) Ls ∧ (vp_in (x3_18 + (2 : Int32)) Ls ∧ (vp_in (x3_18 + (3 : Int32)) Ls ∧ (wX6_blind (xs (x3_18 + (1 : Int32)).toNatClampNeg) (xs (x3_18 + (2 : Int32)).toNatClampNeg) (xs (x3_18 + (3 : Int32)).toNatClampNeg) (fun r_137 M_137 => (vp_in (x3_18 + (1 : Int32)) Ls ∧ (vp_in (x3_18 + (2 : Int32)) Ls ∧ (vp_in (x3_18 + (3 : Int32)) Ls ∧ (wX7_blind (xs (x3_18 + (1 : Int32)).toNatClampNeg) (xs (x3_18 + (2 : Int32)).toNatClampNeg) (xs (x3_18 + (3 : Int32)).toNatClampNeg) (fun r_141 M_141 => ((r_137 = r_141 → (J_18 (x3_18 + 5) M_141)) ∧ (¬ r_137 = r_141 → ((0 : Int32) = (1 : Int32))))) M_137))))) m18))))) ∧ (¬ ((xs x3_18.toNatClampNeg) &&& (63 : Int32)) = 17 → ((((xs x3_18.toNatClampNeg) &&& (63 : Int32)) = 18 → (wX6_rest (fun r_144 M_144 => (wX7_rest (fun r_145 M_145 => ((r_144 = r_145 → (J_18 (x3_18 + 5) M_145)) ∧ (¬ r_144 = r_145 → ((0 : Int32) = (1 : Int32))))) M_144)) m18)) ∧ (¬ ((xs x3_18.toNatClampNeg) &&& (63 : Int32)) = 18 → ((((xs x3_18.toNatClampNeg) &&& (63 : Int32)) = 19 → (vp_in (x3_18 + (1 : Int32)) Ls ∧ (wX6_order (xs (x3_18 + (1 : Int32)).toNatClampNeg) (fun r_149 M_149 => (vp_in (x3_18 + (1 : Int32)) Ls ∧ (wX7_order (xs (x3_18 + (1 : Int32)).toNatClampNeg) (fun r_151 M_151 => ((r_149 = r_151 → (J_18 (x3_18 + 5) M_151)) ∧ (¬ r_149 = r_151 → ((0 : Int32) = (1 : Int32))))) M_149))) m18))) ∧ (¬ ((xs x3_18.toNatClampNeg) &&& (63 : Int32)) = 19 → ((((xs x3_18.toNatClampNeg) &&& (63 : Int32)) = 20 → (vp_in (x3_18 + (1 : Int32)) Ls ∧ (vp_in (x3_18 + (2 : Int32)) Ls ∧ (wX6_minute (xs (x3_18 + (1 : Int32)).toNatClampNeg) (xs (x3_18 + (2 : Int32)).toNatClampNeg) (fun r_156 M_156 => (vp_in (x3_18 + (1 : Int32)) Ls ∧ (vp_in (x3_18 + (2 : Int32)) Ls ∧ (wX7_minute (xs (x3_18 + (1 : Int32)).toNatClampNeg) (xs (x3_18 + (2 : Int32)).toNatClampNeg) (fun r_159 M_159 => ((r_156 = r_159 → (J_18 (x3_18 + 5) M_159)) ∧ (¬ r_156 = r_159 → ((0 : Int32) = (1 : Int32))))) M_156)))) m18)))) ∧ (¬ ((xs x3_18.toNatClampNeg) &&& (63 : Int32)) = 20 → ((((xs x3_18.toNatClampNeg) &&& (63 : Int32)) = 21 → (vp_in (x3_18 + (1 : Int32)) Ls ∧ (vp_in (x3_18 + (2 : Int32)) Ls ∧ (wX6_ofComer (xs (x3_18 + (1 : Int32)).toNatClampNeg) (xs (x3_18 + (2 : Int32)).toNatClampNeg) (fun r_164 M_164 => (vp_in (x3_18 + (1 : Int32)) Ls ∧ (vp_in (x3_18 + (2 : Int32)) Ls ∧ (wX7_ofComer (xs (x3_18 + (1 : Int32)).toNatClampNeg) (xs (x3_18 + (2 : Int32)).toNatClampNeg) (fun r_167 M_167 => ((r_164 = r_167 → (J_18 (x3_18 + 5) M_167)) ∧ (¬ r_164 = r_167 → ((0 : Int32) = (1 : Int32))))) M_164)))) m18)))) ∧ (¬ ((xs x3_18.toNatClampNeg) &&& (63 : Int32)) = 21 → ((((xs x3_18.toNatClampNeg) &&& (63 : Int32)) = 22 → (vp_in (x3_18 + (1 : Int32)) Ls ∧ (wX6_leave (xs (x3_18 + (1 : Int32)).toNatClampNeg) (fun r_171 M_171 => (vp_in (x3_18 + (1 : Int32)) Ls ∧ (wX7_leave (xs (x3_18 + (1 : Int32)).toNatClampNeg) (fun r_173 M_173 => ((r_171 = r_173 → (J_18 (x3_18 + 5) M_173)) ∧ (¬ r_171 = r_173 → ((0 : Int32) = (1 : Int32))))) M_171))) m18))) ∧ (¬ ((xs x3_18.toNatClampNeg) &&& (63 : Int32)) = 22 → ((((xs x3_18.toNatClampNeg) &&& (63 : Int32)) = 23 → (vp_in (x3_18 + (1 : Int32)) Ls ∧ (wX6_line (xs (x3_18 + (1 : Int32)).toNatClampNeg) (fun r_177 M_177 => (vp_in (x3_18 + (1 : Int32)) Ls ∧ (wX7_line (xs (x3_18 + (1 : Int32)).toNatClampNeg) (fun r_179 M_179 => ((r_177 = r_179 → (J_18 (x3_18 + 5) M_179)) ∧ (¬ r_177 = r_179 → ((0 : Int32) = (1 : Int32))))) M_177))) m18))) ∧ (¬ ((xs x3_18.toNatClampNeg) &&& (63 : Int32)) = 23 → ((((xs x3_18.toNatClampNeg) &&& (63 : Int32)) = 24 → (wX6_envy (fun r_182 M_182 => (wX7_envy (fun r_183 M_183 => ((r_182 = r_183 → (J_18 (x3_18 + 5) M_183)) ∧ (¬ r_182 = r_183 → ((0 : Int32) = (1 : Int32))))) M_182)) m18)) ∧ (¬ ((xs x3_18.toNatClampNeg) &&& (63 : Int32)) = 24 → ((((xs x3_18.toNatClampNeg) &&& (63 : Int32)) = 25 → (vp_in (x3_18 + (1 : Int32)) Ls ∧ (vp_in (x3_18 + (2 : Int32)) Ls ∧ (vp_in (x3_18 + (3 : Int32)) Ls ∧ (wX6_sheet (xs (x3_18 + (1 : Int32)).toNatClampNeg) (xs (x3_18 + (2 : Int32)).toNatClampNeg) (xs (x3_18 + (3 : Int32)).toNatClampNeg) (fun r_189 M_189 => (vp_in (x3_18 + (1 : Int32)) Ls ∧ (vp_in (x3_18 + (2 : Int32)) Ls ∧ (vp_in (x3_18 + (3 : Int32)) Ls ∧ (wX7_sheet (xs (x3_18 + (1 : Int32)).toNatClampNeg) (xs (x3_18 + (2 : Int32)).toNatClampNeg) (xs (x3_18 + (3 : Int32)).toNatClampNeg) (fun r_193 M_193 => ((r_189 = r_193 → (J_18 (x3_18 + 5) M_193)) ∧ (¬ r_189 = r_193 → ((0 : Int32) = (1 : Int32))))) M_189))))) m18))))) ∧ (¬ ((xs x3_18.toNatClampNeg) &&& (63 : Int32)) = 25 → ((((xs x3_18.toNatClampNeg) &&& (63 : Int32)) = 26 → (vp_in (x3_18 + (1 : Int32)) Ls ∧ (wX6_lose (xs (x3_18 + (1 : Int32)).toNatClampNeg) (fun r_197 M_197 => (vp_in (x3_18 + (1 : Int32)) Ls ∧ (wX7_lose (xs (x3_18 + (1 : Int32)).toNatClampNeg) (fun r_199 M_199 => ((r_197 = r_199 → (J_18 (x3_18 + 5) M_199)) ∧ (¬ r_197 = r_199 → ((0 : Int32) = (1 : Int32))))) M_197))) m18))) ∧ (¬ ((xs x3_18.toNatClampNeg) &&& (63 : Int32)) = 26 → ((((xs x3_18.toNatClampNeg) &&& (63 : Int32)) = 27 → (vp_in (x3_18 + (1 : Int32)) Ls ∧ (vp_in (x3_18 + (2 : Int32)) Ls ∧ (vp_in (x3_18 + (3 : Int32)) Ls ∧ (wX6_put (xs (x3_18 + (1 : Int32)).toNatClampNeg) (xs (x3_18 + (2 : Int32)).toNatClampNeg) (xs (x3_18 + (3 : Int32)).toNatClampNeg) (fun r_205 M_205 => (vp_in (x3_18 + (1 : Int32)) Ls ∧ (vp_in (x3_18 + (2 : Int32)) Ls ∧ (vp_in (x3_18 + (3 : Int32)) Ls ∧ (wX7_put (xs (x3_18 + (1 : Int32)).toNatClampNeg) (xs (x3_18 + (2 : Int32)).toNatClampNeg) (xs (x3_18 + (3 : Int32)).toNatClampNeg) (fun r_209 M_209 => ((r_205 = r_209 → (J_18 (x3_18 + 5) M_209)) ∧ (¬ r_205 = r_209 → ((0 : Int32) = (1 : Int32))))) M_205))))) m18))))) ∧ (¬ ((xs x3_18.toNatClampNeg) &&& (63 : Int32)) = 27 → ((((xs x3_18.toNatClampNeg) &&& (63 : Int32)) = 28 → (vp_in (x3_18 + (1 : Int32)) Ls ∧ (vp_in (x3_18 + (2 : Int32)) Ls ∧ (vp_in (x3_18 + (3 : Int32)) Ls ∧ (wX6_cell (xs (x3_18 + (1 : Int32)).toNatClampNeg) (xs (x3_18 + (2 : Int32)).toNatClampNeg) (xs (x3_18 + (3 : Int32)).toNatClampNeg) (fun r_215 M_215 => (vp_in (x3_18 + (1 : Int32)) Ls ∧ (vp_in (x3_18 + (2 : Int32)) Ls ∧ (vp_in (x3_18 + (3 : Int32)) Ls ∧ (wX7_cell (xs (x3_18 + (1 : Int32)).toNatClampNeg) (xs (x3_18 + (2 : Int32)).toNatClampNeg) (xs (x3_18 + (3 : Int32)).toNatClampNeg) (fun r_219 M_219 => ((r_215 = r_219 → (J_18 (x3_18 + 5) M_219)) ∧ (¬ r_215 = r_219 → ((0 : Int32) = (1 : Int32))))) M_215))))) m18))))) ∧ (¬ ((xs x3_18.toNatClampNeg) &&& (63 : Int32)) = 28 → ((((xs x3_18.toNatClampNeg) &&& (63 : Int32)) = 29 → (vp_in (x3_18 + (1 : Int32)) Ls ∧ (wX6_tell (xs (x3_18 + (1 : Int32)).toNatClampNeg) (fun r_223 M_223 => (vp_in (x3_18 + (1 : Int32)) Ls ∧ (wX7_tell (xs (x3_18 + (1 : Int32)).toNatClampNeg) (fun r_225 M_225 => ((r_223 = r_225 → (J_18 (x3_18 + 5) M_225)) ∧ (¬ r_223 = r_225 → ((0 : Int32) = (1 : Int32))))) M_223))) m18))) ∧ (¬ ((xs x3_18.toNatClampNeg) &&& (63 : Int32)) = 29 → ((((xs x3_18.toNatClampNeg) &&& (63 : Int32)) = 30 → (vp_in (x3_18 + (1 : Int32)) Ls ∧ (wX6_call (xs (x3_18 + (1 : Int32)).toNatClampNeg) (fun r_229 M_229 => (vp_in (x3_18 + (1 : Int32)) Ls ∧ (wX7_call (xs (x3_18 + (1 : Int32)).toNatClampNeg) (fun r_231 M_231 => ((r_229 = r_231 → (J_18 (x3_18 + 5) M_231)) ∧ (¬ r_229 = r_231 → ((0 : Int32) = (1 : Int32))))) M_229))) m18))) ∧ (¬ ((xs x3_18.toNatClampNeg) &&& (63 : Int32)) = 30 → ((((xs x3_18.toNatClampNeg) &&& (63 : Int32)) = 31 → (vp_in (x3_18 + (1 : Int32)) Ls ∧ (vp_in (x3_18 + (2 : Int32)) Ls ∧ (wX6_as (xs (x3_18 + (1 : Int32)).toNatClampNeg) (xs (x3_18 + (2 : Int32)).toNatClampNeg) (fun r_236 M_236 => (vp_in (x3_18 + (1 : Int32)) Ls ∧ (vp_in (x3_18 + (2 : Int32)) Ls ∧ (wX7_as (xs (x3_18 + (1 : Int32)).toNatClampNeg) (xs (x3_18 + (2 : Int32)).toNatClampNeg) (fun r_239 M_239 => ((r_236 = r_239 → (J_18 (x3_18 + 5) M_239)) ∧ (¬ r_236 = r_239 → ((0 : Int32) = (1 : Int32))))) M_236)))) m18)))) ∧ (¬ ((xs x3_18.toNatClampNeg) &&& (63 : Int32)) = 31 → ((((xs x3_18.toNatClampNeg) &&& (63 : Int32)) = 32 → (wX6_trace (fun r_242 M_242 => (wX7_trace (fun r_243 M_243 => ((r_242 = r_243 → (J_18 (x3_18 + 5) M_243)) ∧ (¬ r_242 = r_243 → ((0 : Int32) = (1 : Int32))))) M_242)) m18)) ∧ (¬ ((xs x3_18.toNatClampNeg) &&& (63 : Int32)) = 32 → ((((xs x3_18.toNatClampNeg) &&& (63 : Int32)) = 33 → (wX6_fault (fun r_246 M_246 => (wX7_fault (fun r_247 M_247 => ((r_246 = r_247 → (J_18 (x3_18 + 5) M_247)) ∧ (¬ r_246 = r_247 → ((0 : Int32) = (1 : Int32))))) M_246)) m18)) ∧ (¬ ((xs x3_18.toNatClampNeg) &&& (63 : Int32)) = 33 → ((((xs x3_18.toNatClampNeg) &&& (63 : Int32)) = 34 → (vp_in (x3_18 + (1 : Int32)) Ls ∧ (wX6_many (xs (x3_18 + (1 : Int32)).toNatClampNeg) (fun r_251 M_251 => (vp_in (x3_18 + (1 : Int32)) Ls ∧ (wX7_many (xs (x3_18 + (1 : Int32)).toNatClampNeg) (fun r_253 M_253 => ((r_251 = r_253 → (J_18 (x3_18 + 5) M_253)) ∧ (¬ r_251 = r_253 → ((0 : Int32) = (1 : Int32))))) M_251))) m18))) ∧ (¬ ((xs x3_18.toNatClampNeg) &&& (63 : Int32)) = 34 → (J_18 (x3_18 + 5) m18))))))))))))))))))))))))))))))))))))))))))))))))))))))))))))))))))))))))))
def lL_law_18 (Ls : Nat) (xs : Nat → Int32) (x3_18 : Int32) (m18 : Mm) : Prop := ∀ I : Int32 → Mm → Prop, (∀ J : Int32 → Mm → Prop, (∀ (x3_18 : Int32) (m : Mm), J x3_18 m → I x3_18 m) → ∀ (x3_18 : Int32) (m : Mm), bL_law_18 Ls xs J x3_18 m → I x3_18 m) → I x3_18 m18
theorem lL_law_18_mk (Ls : Nat) (xs : Nat → Int32) (x3_18 : Int32) (m18 : Mm) (h : bL_law_18 Ls xs (lL_law_18 Ls xs) x3_18 m18) : lL_law_18 Ls xs x3_18 m18 := fun I hI => hI (lL_law_18 Ls xs) (fun _ _ q => q I hI) _ _ h
set_option maxHeartbeats 40000000 in
set_option maxRecDepth 100000 in
theorem law_loop {p : Program} {l : Launch} {e : Env} {s : State} {m : MethodId} {below : List Frame} {meth : Method} {c : Code} {D : va_G} {cI cJ : ClassId} {ad : Nat → Nat} {b Ls : Nat} {xs : Nat → Int32} (C0 : lw_At p s m meth c b Ls xs) (hK : KK D cI cJ s) (had : inj54 ad) (hFA : ∀ q, Fr ad q → s.heap.size ≤ q) (x : Int32) (M : Mm) (hF : (lL_law_18 Ls xs x M)) : WcL p l e s m b below meth c D cI cJ ad 18 [(0, .ref b), (1, .ref (ad 0)), (2, .ref (ad 32)), (3, .int x)] M := by
  obtain ⟨hx, hb, hr, hml, hown, hts0, hX, hbl, hlocks, hgv⟩ := C0
  have hts := hts0
  have S : CallFix p m c cL_law 4 s #[Value.ref b] lw_tbl RL := ⟨hx, hb, hml, hown, hts⟩
  have hA : ∀ q : Nat, s.heap.size ≤ q → (fun q : Nat => s.heap.size ≤ q) q := fun _ h => h
  have hbA : ¬ (fun q : Nat => s.heap.size ≤ q) b := Nat.not_le.mpr hbl
  intro H locs ls hP hS hl
  have key_18 : ∀ (x3_18 : Int32) (m18 : Mm), (lL_law_18 Ls xs x3_18 m18) → WcL p l e s m b below meth c D cI cJ ad 18 [(0, .ref b), (1, .ref (ad 0)), (2, .ref (ad 32)), (3, .int x3_18)] m18 := by
    intro x3_18 m18 hL
    refine hL (fun x3_18 m18 => WcL p l e s m b below meth c D cI cJ ad 18 [(0, .ref b), (1, .ref (ad 0)), (2, .ref (ad 32)), (3, .int x3_18)] m18) ?_
    intro J_18 hJ_18 x3_18 m18 hF H locs ls hP hS hl
    unfold bL_law_18 at hF
    refine lv_iload_n hx hb dL_law_18 rfl (lv_at hl 3 rfl) ?_
    refine lv_aload_n hx hb dL_law_19 rfl (lv_at hl 0 rfl) ?_
    refine va_slen hx hb hX hbl hbA hS dL_law_20 ?_
    refine lv_iconst (v := 5) hx hb dL_law_21 (by decide) ?_
    refine lv_isub hx hb dL_law_22 ?_
    refine lv_icmp_gt (tgt := 1218) hx hb dL_law_23 (by decide) (fun c_1 => ?_) (fun c_1 => ?_)
    · have hF := hF.1 c_1
      refine lv_iconst (v := 1) hx hb dL_law_1218 (by decide) ?_
      exact lawEnd hx hb hr hlocks hS dL_law_1219
    · have hF := hF.2 c_1
      refine lv_aload_n hx hb dL_law_26 rfl (lv_at hl 0 rfl) ?_
      refine lv_iload_n hx hb dL_law_27 rfl (lv_at hl 3 rfl) ?_
      obtain ⟨hb_2, hF⟩ := hF
      refine va_sld hx hb hX hbl hbA hS hb_2 dL_law_28 ?_
      refine lv_bipush (v := 63) hx hb dL_law_29 (by decide) ?_
      refine lv_iand hx hb dL_law_31 ?_
      by_cases c_3 : ((xs x3_18.toNatClampNeg) &&& (63 : Int32)) = 0
      · have hF := hF.1 c_3
        refine lv_tableIn (off := 156) (tgt := 188) hx hb dL_law_32 (by rw [c_3]; decide) (by rw [c_3]; decide) (by rw [c_3]; rfl) (by decide) ?_
        refine lv_aload_n hx hb dL_law_188 rfl (lv_at hl 1 rfl) ?_
        refine lv_aload_n hx hb dL_law_189 rfl (lv_at hl 0 rfl) ?_
        refine lv_iload_n hx hb dL_law_190 rfl (lv_at hl 3 rfl) ?_
        refine lv_iconst (v := 1) hx hb dL_law_191 (by decide) ?_
        refine lv_iadd hx hb dL_law_192 ?_
        obtain ⟨hb_4, hF⟩ := hF
        refine va_sld hx hb hX hbl hbA hS hb_4 dL_law_193 ?_
        refine lv_aload_n hx hb dL_law_194 rfl (lv_at hl 0 rfl) ?_
        refine lv_iload_n hx hb dL_law_195 rfl (lv_at hl 3 rfl) ?_
        refine lv_iconst (v := 2) hx hb dL_law_196 (by decide) ?_
        refine lv_iadd hx hb dL_law_197 ?_
        obtain ⟨hb_5, hF⟩ := hF
        refine va_sld hx hb hX hbl hbA hS hb_5 dL_law_198 ?_
        refine lv_aload_n hx hb dL_law_199 rfl (lv_at hl 0 rfl) ?_
        refine lv_iload_n hx hb dL_law_200 rfl (lv_at hl 3 rfl) ?_
        refine lv_iconst (v := 3) hx hb dL_law_201 (by decide) ?_
        refine lv_iadd hx hb dL_law_202 ?_
        obtain ⟨hb_6, hF⟩ := hF
        refine va_sld hx hb hX hbl hbA hS hb_6 dL_law_203 ?_
        refine lv_aload_n hx hb dL_law_204 rfl (lv_at hl 0 rfl) ?_
        refine lv_iload_n hx hb dL_law_205 rfl (lv_at hl 3 rfl) ?_
        refine lv_iconst (v := 4) hx hb dL_law_206 (by decide) ?_
        refine lv_iadd hx hb dL_law_207 ?_
        obtain ⟨hb_7, hF⟩ := hF
        refine va_sld hx hb hX hbl hbA hS hb_7 dL_law_208 ?_
        refine goI (rV (rest := []) S hK hP (ctX6_place l D cI cJ ad had (xs (x3_18 + (1 : Int32)).toNatClampNeg) (xs (x3_18 + (2 : Int32)).toNatClampNeg) (xs (x3_18 + (3 : Int32)).toNatClampNeg) (xs (x3_18 + (4 : Int32)).toNatClampNeg) _ _ hF) (cwV 4 hts gL_law_X6_place rfl rfl rfl hdV_X6_place ⟨Nat.le_of_ble_eq_true rfl, Nat.le_of_ble_eq_true rfl⟩) e_R rfl rfl hl.1 rfl (Nat.le_of_ble_eq_true rfl) dL_law_209 ⟨Nat.le_of_ble_eq_true rfl, Nat.le_of_ble_eq_true rfl⟩) hS hFA (fun r_8 M_8 H locs hP hS hF => ?_)
        refine lv_aload_n hx hb dL_law_212 rfl (lv_at hl 2 rfl) ?_
        refine lv_aload_n hx hb dL_law_213 rfl (lv_at hl 0 rfl) ?_
        refine lv_iload_n hx hb dL_law_214 rfl (lv_at hl 3 rfl) ?_
        refine lv_iconst (v := 1) hx hb dL_law_215 (by decide) ?_
        refine lv_iadd hx hb dL_law_216 ?_
        obtain ⟨hb_9, hF⟩ := hF
        refine va_sld hx hb hX hbl hbA hS hb_9 dL_law_217 ?_
        refine lv_aload_n hx hb dL_law_218 rfl (lv_at hl 0 rfl) ?_
        refine lv_iload_n hx hb dL_law_219 rfl (lv_at hl 3 rfl) ?_
        refine lv_iconst (v := 2) hx hb dL_law_220 (by decide) ?_
        refine lv_iadd hx hb dL_law_221 ?_
        obtain ⟨hb_10, hF⟩ := hF
        refine va_sld hx hb hX hbl hbA hS hb_10 dL_law_222 ?_
        refine lv_aload_n hx hb dL_law_223 rfl (lv_at hl 0 rfl) ?_
        refine lv_iload_n hx hb dL_law_224 rfl (lv_at hl 3 rfl) ?_
        refine lv_iconst (v := 3) hx hb dL_law_225 (by decide) ?_
        refine lv_iadd hx hb dL_law_226 ?_
        obtain ⟨hb_11, hF⟩ := hF
        refine va_sld hx hb hX hbl hbA hS hb_11 dL_law_227 ?_
        refine lv_aload_n hx hb dL_law_228 rfl (lv_at hl 0 rfl) ?_
        refine lv_iload_n hx hb dL_law_229 rfl (lv_at hl 3 rfl) ?_
        refine lv_iconst (v := 4) hx hb dL_law_230 (by decide) ?_
        refine lv_iadd hx hb dL_law_231 ?_
        obtain ⟨hb_12, hF⟩ := hF
        refine va_sld hx hb hX hbl hbA hS hb_12 dL_law_232 ?_
        refine goI (rV (rest := [.int r_8]) S hK hP (ctX7_place l D cI cJ ad had (xs (x3_18 + (1 : Int32)).toNatClampNeg) (xs (x3_18 + (2 : Int32)).toNatClampNeg) (xs (x3_18 + (3 : Int32)).toNatClampNeg) (xs (x3_18 + (4 : Int32)).toNatClampNeg) _ _ hF) (cwV 4 hts gL_law_X7_place rfl rfl rfl hdV_X7_place ⟨Nat.le_of_ble_eq_true rfl, Nat.le_of_ble_eq_true rfl⟩) e_M rfl rfl hl.1 rfl (Nat.le_of_ble_eq_true rfl) dL_law_233 ⟨Nat.le_of_ble_eq_true rfl, Nat.le_of_ble_eq_true rfl⟩) hS hFA (fun r_13 M_13 H locs hP hS hF => ?_)
        refine lv_icmp_eq (tgt := 1212) hx hb dL_law_236 (by decide) (fun c_14 => ?_) (fun c_14 => ?_)
        · have hF := hF.1 c_14
          refine lv_iinc (v := (x3_18 + 5)) (lv' := [(3, .int (x3_18 + 5)), (0, .ref b), (1, .ref (ad 0)), (2, .ref (ad 32))]) hx hb dL_law_1212 hl (k := 3) rfl rfl (by decide) rfl (fun ls hl => ?_)
          refine lv_goto (tgt := 18) hx hb dL_law_1215 (by decide) ?_
          exact hJ_18 _ _ hF _ _ _ hP hS (lv_sub hl [1, 2, 3, 0] rfl)
        · have hF := hF.2 c_14
          refine lv_iconst (v := 0) hx hb dL_law_239 (by decide) ?_
          exact absurd hF (by decide)
      · have hF := hF.2 c_3
        by_cases c_15 : ((xs x3_18.toNatClampNeg) &&& (63 : Int32)) = 1
        · have hF := hF.1 c_15
          refine lv_tableIn (off := 209) (tgt := 241) hx hb dL_law_32 (by rw [c_15]; decide) (by rw [c_15]; decide) (by rw [c_15]; rfl) (by decide) ?_
          refine lv_aload_n hx hb dL_law_241 rfl (lv_at hl 1 rfl) ?_
          refine lv_aload_n hx hb dL_law_242 rfl (lv_at hl 0 rfl) ?_
          refine lv_iload_n hx hb dL_law_243 rfl (lv_at hl 3 rfl) ?_
          refine lv_iconst (v := 1) hx hb dL_law_244 (by decide) ?_
          refine lv_iadd hx hb dL_law_245 ?_
          obtain ⟨hb_16, hF⟩ := hF
          refine va_sld hx hb hX hbl hbA hS hb_16 dL_law_246 ?_
          refine goI (rV (rest := []) S hK hP (ctX6_about l D cI cJ ad had (xs (x3_18 + (1 : Int32)).toNatClampNeg) _ _ hF) (cwV 1 hts gL_law_X6_about rfl rfl rfl hdV_X6_about ⟨Nat.le_of_ble_eq_true rfl, Nat.le_of_ble_eq_true rfl⟩) e_R rfl rfl hl.1 rfl (Nat.le_of_ble_eq_true rfl) dL_law_247 ⟨Nat.le_of_ble_eq_true rfl, Nat.le_of_ble_eq_true rfl⟩) hS hFA (fun r_17 M_17 H locs hP hS hF => ?_)
          refine lv_aload_n hx hb dL_law_250 rfl (lv_at hl 2 rfl) ?_
          refine lv_aload_n hx hb dL_law_251 rfl (lv_at hl 0 rfl) ?_
          refine lv_iload_n hx hb dL_law_252 rfl (lv_at hl 3 rfl) ?_
          refine lv_iconst (v := 1) hx hb dL_law_253 (by decide) ?_
          refine lv_iadd hx hb dL_law_254 ?_
          obtain ⟨hb_18, hF⟩ := hF
          refine va_sld hx hb hX hbl hbA hS hb_18 dL_law_255 ?_
          refine goI (rV (rest := [.int r_17]) S hK hP (ctX7_about l D cI cJ ad had (xs (x3_18 + (1 : Int32)).toNatClampNeg) _ _ hF) (cwV 1 hts gL_law_X7_about rfl rfl rfl hdV_X7_about ⟨Nat.le_of_ble_eq_true rfl, Nat.le_of_ble_eq_true rfl⟩) e_M rfl rfl hl.1 rfl (Nat.le_of_ble_eq_true rfl) dL_law_256 ⟨Nat.le_of_ble_eq_true rfl, Nat.le_of_ble_eq_true rfl⟩) hS hFA (fun r_19 M_19 H locs hP hS hF => ?_)
          refine lv_icmp_eq (tgt := 1212) hx hb dL_law_259 (by decide) (fun c_20 => ?_) (fun c_20 => ?_)
          · have hF := hF.1 c_20
            refine lv_iinc (v := (x3_18 + 5)) (lv' := [(3, .int (x3_18 + 5)), (0, .ref b), (1, .ref (ad 0)), (2, .ref (ad 32))]) hx hb dL_law_1212 hl (k := 3) rfl rfl (by decide) rfl (fun ls hl => ?_)
            refine lv_goto (tgt := 18) hx hb dL_law_1215 (by decide) ?_
            exact hJ_18 _ _ hF _ _ _ hP hS (lv_sub hl [1, 2, 3, 0] rfl)
          · have hF := hF.2 c_20
            refine lv_iconst (v := 0) hx hb dL_law_262 (by decide) ?_
            exact absurd hF (by decide)
        · have hF := hF.2 c_15
          by_cases c_21 : ((xs x3_18.toNatClampNeg) &&& (63 : Int32)) = 2
          · have hF := hF.1 c_21
            refine lv_tableIn (off := 232) (tgt := 264) hx hb dL_law_32 (by rw [c_21]; decide) (by rw [c_21]; decide) (by rw [c_21]; rfl) (by decide) ?_
            refine lv_aload_n hx hb dL_law_264 rfl (lv_at hl 1 rfl) ?_
            refine lv_aload_n hx hb dL_law_265 rfl (lv_at hl 0 rfl) ?_
            refine lv_iload_n hx hb dL_law_266 rfl (lv_at hl 3 rfl) ?_
            refine lv_iconst (v := 1) hx hb dL_law_267 (by decide) ?_
            refine lv_iadd hx hb dL_law_268 ?_
            obtain ⟨hb_22, hF⟩ := hF
            refine va_sld hx hb hX hbl hbA hS hb_22 dL_law_269 ?_
            refine lv_aload_n hx hb dL_law_270 rfl (lv_at hl 0 rfl) ?_
            refine lv_iload_n hx hb dL_law_271 rfl (lv_at hl 3 rfl) ?_
            refine lv_iconst (v := 2) hx hb dL_law_272 (by decide) ?_
            refine lv_iadd hx hb dL_law_273 ?_
            obtain ⟨hb_23, hF⟩ := hF
            refine va_sld hx hb hX hbl hbA hS hb_23 dL_law_274 ?_
            refine goI (rV (rest := []) S hK hP (ctX6_ofSort l D cI cJ ad had (xs (x3_18 + (1 : Int32)).toNatClampNeg) (xs (x3_18 + (2 : Int32)).toNatClampNeg) _ _ hF) (cwV 2 hts gL_law_X6_ofSort rfl rfl rfl hdV_X6_ofSort ⟨Nat.le_of_ble_eq_true rfl, Nat.le_of_ble_eq_true rfl⟩) e_R rfl rfl hl.1 rfl (Nat.le_of_ble_eq_true rfl) dL_law_275 ⟨Nat.le_of_ble_eq_true rfl, Nat.le_of_ble_eq_true rfl⟩) hS hFA (fun r_24 M_24 H locs hP hS hF => ?_)
            refine lv_aload_n hx hb dL_law_278 rfl (lv_at hl 2 rfl) ?_
            refine lv_aload_n hx hb dL_law_279 rfl (lv_at hl 0 rfl) ?_
            refine lv_iload_n hx hb dL_law_280 rfl (lv_at hl 3 rfl) ?_
            refine lv_iconst (v := 1) hx hb dL_law_281 (by decide) ?_
            refine lv_iadd hx hb dL_law_282 ?_
            obtain ⟨hb_25, hF⟩ := hF
            refine va_sld hx hb hX hbl hbA hS hb_25 dL_law_283 ?_
            refine lv_aload_n hx hb dL_law_284 rfl (lv_at hl 0 rfl) ?_
            refine lv_iload_n hx hb dL_law_285 rfl (lv_at hl 3 rfl) ?_
            refine lv_iconst (v := 2) hx hb dL_law_286 (by decide) ?_
            refine lv_iadd hx hb dL_law_287 ?_
            obtain ⟨hb_26, hF⟩ := hF
            refine va_sld hx hb hX hbl hbA hS hb_26 dL_law_288 ?_
            refine goI (rV (rest := [.int r_24]) S hK hP (ctX7_ofSort l D cI cJ ad had (xs (x3_18 + (1 : Int32)).toNatClampNeg) (xs (x3_18 + (2 : Int32)).toNatClampNeg) _ _ hF) (cwV 2 hts gL_law_X7_ofSort rfl rfl rfl hdV_X7_ofSort ⟨Nat.le_of_ble_eq_true rfl, Nat.le_of_ble_eq_true rfl⟩) e_M rfl rfl hl.1 rfl (Nat.le_of_ble_eq_true rfl) dL_law_289 ⟨Nat.le_of_ble_eq_true rfl, Nat.le_of_ble_eq_true rfl⟩) hS hFA (fun r_27 M_27 H locs hP hS hF => ?_)
            refine lv_icmp_eq (tgt := 1212) hx hb dL_law_292 (by decide) (fun c_28 => ?_) (fun c_28 => ?_)
            · have hF := hF.1 c_28
              refine lv_iinc (v := (x3_18 + 5)) (lv' := [(3, .int (x3_18 + 5)), (0, .ref b), (1, .ref (ad 0)), (2, .ref (ad 32))]) hx hb dL_law_1212 hl (k := 3) rfl rfl (by decide) rfl (fun ls hl => ?_)
              refine lv_goto (tgt := 18) hx hb dL_law_1215 (by decide) ?_
              exact hJ_18 _ _ hF _ _ _ hP hS (lv_sub hl [1, 2, 3, 0] rfl)
            · have hF := hF.2 c_28
              refine lv_iconst (v := 0) hx hb dL_law_295 (by decide) ?_
              exact absurd hF (by decide)
          · have hF := hF.2 c_21
            by_cases c_29 : ((xs x3_18.toNatClampNeg) &&& (63 : Int32)) = 3
            · have hF := hF.1 c_29
              refine lv_tableIn (off := 265) (tgt := 297) hx hb dL_law_32 (by rw [c_29]; decide) (by rw [c_29]; decide) (by rw [c_29]; rfl) (by decide) ?_
              refine lv_aload_n hx hb dL_law_297 rfl (lv_at hl 1 rfl) ?_
              refine lv_aload_n hx hb dL_law_298 rfl (lv_at hl 0 rfl) ?_
              refine lv_iload_n hx hb dL_law_299 rfl (lv_at hl 3 rfl) ?_
              refine lv_iconst (v := 1) hx hb dL_law_300 (by decide) ?_
              refine lv_iadd hx hb dL_law_301 ?_
              obtain ⟨hb_30, hF⟩ := hF
              refine va_sld hx hb hX hbl hbA hS hb_30 dL_law_302 ?_
              refine lv_aload_n hx hb dL_law_303 rfl (lv_at hl 0 rfl) ?_
              refine lv_iload_n hx hb dL_law_304 rfl (lv_at hl 3 rfl) ?_
              refine lv_iconst (v := 2) hx hb dL_law_305 (by decide) ?_
              refine lv_iadd hx hb dL_law_306 ?_
              obtain ⟨hb_31, hF⟩ := hF
              refine va_sld hx hb hX hbl hbA hS hb_31 dL_law_307 ?_
              refine goI (rV (rest := []) S hK hP (ctX6_bar l D cI cJ ad had (xs (x3_18 + (1 : Int32)).toNatClampNeg) (xs (x3_18 + (2 : Int32)).toNatClampNeg) _ _ hF) (cwV 2 hts gL_law_X6_bar rfl rfl rfl hdV_X6_bar ⟨Nat.le_of_ble_eq_true rfl, Nat.le_of_ble_eq_true rfl⟩) e_R rfl rfl hl.1 rfl (Nat.le_of_ble_eq_true rfl) dL_law_308 ⟨Nat.le_of_ble_eq_true rfl, Nat.le_of_ble_eq_true rfl⟩) hS hFA (fun r_32 M_32 H locs hP hS hF => ?_)
              refine lv_aload_n hx hb dL_law_311 rfl (lv_at hl 2 rfl) ?_
              refine lv_aload_n hx hb dL_law_312 rfl (lv_at hl 0 rfl) ?_
              refine lv_iload_n hx hb dL_law_313 rfl (lv_at hl 3 rfl) ?_
              refine lv_iconst (v := 1) hx hb dL_law_314 (by decide) ?_
              refine lv_iadd hx hb dL_law_315 ?_
              obtain ⟨hb_33, hF⟩ := hF
              refine va_sld hx hb hX hbl hbA hS hb_33 dL_law_316 ?_
              refine lv_aload_n hx hb dL_law_317 rfl (lv_at hl 0 rfl) ?_
              refine lv_iload_n hx hb dL_law_318 rfl (lv_at hl 3 rfl) ?_
              refine lv_iconst (v := 2) hx hb dL_law_319 (by decide) ?_
              refine lv_iadd hx hb dL_law_320 ?_
              obtain ⟨hb_34, hF⟩ := hF
              refine va_sld hx hb hX hbl hbA hS hb_34 dL_law_321 ?_
              refine goI (rV (rest := [.int r_32]) S hK hP (ctX7_bar l D cI cJ ad had (xs (x3_18 + (1 : Int32)).toNatClampNeg) (xs (x3_18 + (2 : Int32)).toNatClampNeg) _ _ hF) (cwV 2 hts gL_law_X7_bar rfl rfl rfl hdV_X7_bar ⟨Nat.le_of_ble_eq_true rfl, Nat.le_of_ble_eq_true rfl⟩) e_M rfl rfl hl.1 rfl (Nat.le_of_ble_eq_true rfl) dL_law_322 ⟨Nat.le_of_ble_eq_true rfl, Nat.le_of_ble_eq_true rfl⟩) hS hFA (fun r_35 M_35 H locs hP hS hF => ?_)
              refine lv_icmp_eq (tgt := 1212) hx hb dL_law_325 (by decide) (fun c_36 => ?_) (fun c_36 => ?_)
              · have hF := hF.1 c_36
                refine lv_iinc (v := (x3_18 + 5)) (lv' := [(3, .int (x3_18 + 5)), (0, .ref b), (1, .ref (ad 0)), (2, .ref (ad 32))]) hx hb dL_law_1212 hl (k := 3) rfl rfl (by decide) rfl (fun ls hl => ?_)
                refine lv_goto (tgt := 18) hx hb dL_law_1215 (by decide) ?_
                exact hJ_18 _ _ hF _ _ _ hP hS (lv_sub hl [1, 2, 3, 0] rfl)
              · have hF := hF.2 c_36
                refine lv_iconst (v := 0) hx hb dL_law_328 (by decide) ?_
                exact absurd hF (by decide)
            · have hF := hF.2 c_29
              by_cases c_37 : ((xs x3_18.toNatClampNeg) &&& (63 : Int32)) = 4
              · have hF := hF.1 c_37
                refine lv_tableIn (off := 298) (tgt := 330) hx hb dL_law_32 (by rw [c_37]; decide) (by rw [c_37]; decide) (by rw [c_37]; rfl) (by decide) ?_
                refine lv_aload_n hx hb dL_law_330 rfl (lv_at hl 1 rfl) ?_
                refine lv_aload_n hx hb dL_law_331 rfl (lv_at hl 0 rfl) ?_
                refine lv_iload_n hx hb dL_law_332 rfl (lv_at hl 3 rfl) ?_
                refine lv_iconst (v := 1) hx hb dL_law_333 (by decide) ?_
                refine lv_iadd hx hb dL_law_334 ?_
                obtain ⟨hb_38, hF⟩ := hF
                refine va_sld hx hb hX hbl hbA hS hb_38 dL_law_335 ?_
                refine goI (rV (rest := []) S hK hP (ctX6_toll l D cI cJ ad had (xs (x3_18 + (1 : Int32)).toNatClampNeg) _ _ hF) (cwV 1 hts gL_law_X6_toll rfl rfl rfl hdV_X6_toll ⟨Nat.le_of_ble_eq_true rfl, Nat.le_of_ble_eq_true rfl⟩) e_R rfl rfl hl.1 rfl (Nat.le_of_ble_eq_true rfl) dL_law_336 ⟨Nat.le_of_ble_eq_true rfl, Nat.le_of_ble_eq_true rfl⟩) hS hFA (fun r_39 M_39 H locs hP hS hF => ?_)
                refine lv_aload_n hx hb dL_law_339 rfl (lv_at hl 2 rfl) ?_
                refine lv_aload_n hx hb dL_law_340 rfl (lv_at hl 0 rfl) ?_
                refine lv_iload_n hx hb dL_law_341 rfl (lv_at hl 3 rfl) ?_
                refine lv_iconst (v := 1) hx hb dL_law_342 (by decide) ?_
                refine lv_iadd hx hb dL_law_343 ?_
                obtain ⟨hb_40, hF⟩ := hF
                refine va_sld hx hb hX hbl hbA hS hb_40 dL_law_344 ?_
                refine goI (rV (rest := [.int r_39]) S hK hP (ctX7_toll l D cI cJ ad had (xs (x3_18 + (1 : Int32)).toNatClampNeg) _ _ hF) (cwV 1 hts gL_law_X7_toll rfl rfl rfl hdV_X7_toll ⟨Nat.le_of_ble_eq_true rfl, Nat.le_of_ble_eq_true rfl⟩) e_M rfl rfl hl.1 rfl (Nat.le_of_ble_eq_true rfl) dL_law_345 ⟨Nat.le_of_ble_eq_true rfl, Nat.le_of_ble_eq_true rfl⟩) hS hFA (fun r_41 M_41 H locs hP hS hF => ?_)
                refine lv_icmp_eq (tgt := 1212) hx hb dL_law_348 (by decide) (fun c_42 => ?_) (fun c_42 => ?_)
                · have hF := hF.1 c_42
                  refine lv_iinc (v := (x3_18 + 5)) (lv' := [(3, .int (x3_18 + 5)), (0, .ref b), (1, .ref (ad 0)), (2, .ref (ad 32))]) hx hb dL_law_1212 hl (k := 3) rfl rfl (by decide) rfl (fun ls hl => ?_)
                  refine lv_goto (tgt := 18) hx hb dL_law_1215 (by decide) ?_
                  exact hJ_18 _ _ hF _ _ _ hP hS (lv_sub hl [1, 2, 3, 0] rfl)
                · have hF := hF.2 c_42
                  refine lv_iconst (v := 0) hx hb dL_law_351 (by decide) ?_
                  exact absurd hF (by decide)
              · have hF := hF.2 c_37
                by_cases c_43 : ((xs x3_18.toNatClampNeg) &&& (63 : Int32)) = 5
                · have hF := hF.1 c_43
                  refine lv_tableIn (off := 321) (tgt := 353) hx hb dL_law_32 (by rw [c_43]; decide) (by rw [c_43]; decide) (by rw [c_43]; rfl) (by decide) ?_
                  refine lv_aload_n hx hb dL_law_353 rfl (lv_at hl 1 rfl) ?_
                  refine lv_aload_n hx hb dL_law_354 rfl (lv_at hl 0 rfl) ?_
                  refine lv_iload_n hx hb dL_law_355 rfl (lv_at hl 3 rfl) ?_
                  refine lv_iconst (v := 1) hx hb dL_law_356 (by decide) ?_
                  refine lv_iadd hx hb dL_law_357 ?_
                  obtain ⟨hb_44, hF⟩ := hF
                  refine va_sld hx hb hX hbl hbA hS hb_44 dL_law_358 ?_
                  refine lv_aload_n hx hb dL_law_359 rfl (lv_at hl 0 rfl) ?_
                  refine lv_iload_n hx hb dL_law_360 rfl (lv_at hl 3 rfl) ?_
                  refine lv_iconst (v := 2) hx hb dL_law_361 (by decide) ?_
                  refine lv_iadd hx hb dL_law_362 ?_
                  obtain ⟨hb_45, hF⟩ := hF
                  refine va_sld hx hb hX hbl hbA hS hb_45 dL_law_363 ?_
                  refine goI (rV (rest := []) S hK hP (ctX6_board l D cI cJ ad had (xs (x3_18 + (1 : Int32)).toNatClampNeg) (xs (x3_18 + (2 : Int32)).toNatClampNeg) _ _ hF) (cwV 2 hts gL_law_X6_board rfl rfl rfl hdV_X6_board ⟨Nat.le_of_ble_eq_true rfl, Nat.le_of_ble_eq_true rfl⟩) e_R rfl rfl hl.1 rfl (Nat.le_of_ble_eq_true rfl) dL_law_364 ⟨Nat.le_of_ble_eq_true rfl, Nat.le_of_ble_eq_true rfl⟩) hS hFA (fun r_46 M_46 H locs hP hS hF => ?_)
                  refine lv_aload_n hx hb dL_law_367 rfl (lv_at hl 2 rfl) ?_
                  refine lv_aload_n hx hb dL_law_368 rfl (lv_at hl 0 rfl) ?_
                  refine lv_iload_n hx hb dL_law_369 rfl (lv_at hl 3 rfl) ?_
                  refine lv_iconst (v := 1) hx hb dL_law_370 (by decide) ?_
                  refine lv_iadd hx hb dL_law_371 ?_
                  obtain ⟨hb_47, hF⟩ := hF
                  refine va_sld hx hb hX hbl hbA hS hb_47 dL_law_372 ?_
                  refine lv_aload_n hx hb dL_law_373 rfl (lv_at hl 0 rfl) ?_
                  refine lv_iload_n hx hb dL_law_374 rfl (lv_at hl 3 rfl) ?_
                  refine lv_iconst (v := 2) hx hb dL_law_375 (by decide) ?_
                  refine lv_iadd hx hb dL_law_376 ?_
                  obtain ⟨hb_48, hF⟩ := hF
                  refine va_sld hx hb hX hbl hbA hS hb_48 dL_law_377 ?_
                  refine goI (rV (rest := [.int r_46]) S hK hP (ctX7_board l D cI cJ ad had (xs (x3_18 + (1 : Int32)).toNatClampNeg) (xs (x3_18 + (2 : Int32)).toNatClampNeg) _ _ hF) (cwV 2 hts gL_law_X7_board rfl rfl rfl hdV_X7_board ⟨Nat.le_of_ble_eq_true rfl, Nat.le_of_ble_eq_true rfl⟩) e_M rfl rfl hl.1 rfl (Nat.le_of_ble_eq_true rfl) dL_law_378 ⟨Nat.le_of_ble_eq_true rfl, Nat.le_of_ble_eq_true rfl⟩) hS hFA (fun r_49 M_49 H locs hP hS hF => ?_)
                  refine lv_icmp_eq (tgt := 1212) hx hb dL_law_381 (by decide) (fun c_50 => ?_) (fun c_50 => ?_)
                  · have hF := hF.1 c_50
                    refine lv_iinc (v := (x3_18 + 5)) (lv' := [(3, .int (x3_18 + 5)), (0, .ref b), (1, .ref (ad 0)), (2, .ref (ad 32))]) hx hb dL_law_1212 hl (k := 3) rfl rfl (by decide) rfl (fun ls hl => ?_)
                    refine lv_goto (tgt := 18) hx hb dL_law_1215 (by decide) ?_
                    exact hJ_18 _ _ hF _ _ _ hP hS (lv_sub hl [1, 2, 3, 0] rfl)
                  · have hF := hF.2 c_50
                    refine lv_iconst (v := 0) hx hb dL_law_384 (by decide) ?_
                    exact absurd hF (by decide)
                · have hF := hF.2 c_43
                  by_cases c_51 : ((xs x3_18.toNatClampNeg) &&& (63 : Int32)) = 6
                  · have hF := hF.1 c_51
                    refine lv_tableIn (off := 354) (tgt := 386) hx hb dL_law_32 (by rw [c_51]; decide) (by rw [c_51]; decide) (by rw [c_51]; rfl) (by decide) ?_
                    refine lv_aload_n hx hb dL_law_386 rfl (lv_at hl 1 rfl) ?_
                    refine lv_aload_n hx hb dL_law_387 rfl (lv_at hl 0 rfl) ?_
                    refine lv_iload_n hx hb dL_law_388 rfl (lv_at hl 3 rfl) ?_
                    refine lv_iconst (v := 1) hx hb dL_law_389 (by decide) ?_
                    refine lv_iadd hx hb dL_law_390 ?_
                    obtain ⟨hb_52, hF⟩ := hF
                    refine va_sld hx hb hX hbl hbA hS hb_52 dL_law_391 ?_
                    refine goI (rV (rest := []) S hK hP (ctX6_bars l D cI cJ ad had (xs (x3_18 + (1 : Int32)).toNatClampNeg) _ _ hF) (cwV 1 hts gL_law_X6_bars rfl rfl rfl hdV_X6_bars ⟨Nat.le_of_ble_eq_true rfl, Nat.le_of_ble_eq_true rfl⟩) e_R rfl rfl hl.1 rfl (Nat.le_of_ble_eq_true rfl) dL_law_392 ⟨Nat.le_of_ble_eq_true rfl, Nat.le_of_ble_eq_true rfl⟩) hS hFA (fun r_53 M_53 H locs hP hS hF => ?_)
                    refine lv_aload_n hx hb dL_law_395 rfl (lv_at hl 2 rfl) ?_
                    refine lv_aload_n hx hb dL_law_396 rfl (lv_at hl 0 rfl) ?_
                    refine lv_iload_n hx hb dL_law_397 rfl (lv_at hl 3 rfl) ?_
                    refine lv_iconst (v := 1) hx hb dL_law_398 (by decide) ?_
                    refine lv_iadd hx hb dL_law_399 ?_
                    obtain ⟨hb_54, hF⟩ := hF
                    refine va_sld hx hb hX hbl hbA hS hb_54 dL_law_400 ?_
                    refine goI (rV (rest := [.int r_53]) S hK hP (ctX7_bars l D cI cJ ad had (xs (x3_18 + (1 : Int32)).toNatClampNeg) _ _ hF) (cwV 1 hts gL_law_X7_bars rfl rfl rfl hdV_X7_bars ⟨Nat.le_of_ble_eq_true rfl, Nat.le_of_ble_eq_true rfl⟩) e_M rfl rfl hl.1 rfl (Nat.le_of_ble_eq_true rfl) dL_law_401 ⟨Nat.le_of_ble_eq_true rfl, Nat.le_of_ble_eq_true rfl⟩) hS hFA (fun r_55 M_55 H locs hP hS hF => ?_)
                    refine lv_icmp_eq (tgt := 1212) hx hb dL_law_404 (by decide) (fun c_56 => ?_) (fun c_56 => ?_)
                    · have hF := hF.1 c_56
                      refine lv_iinc (v := (x3_18 + 5)) (lv' := [(3, .int (x3_18 + 5)), (0, .ref b), (1, .ref (ad 0)), (2, .ref (ad 32))]) hx hb dL_law_1212 hl (k := 3) rfl rfl (by decide) rfl (fun ls hl => ?_)
                      refine lv_goto (tgt := 18) hx hb dL_law_1215 (by decide) ?_
                      exact hJ_18 _ _ hF _ _ _ hP hS (lv_sub hl [1, 2, 3, 0] rfl)
                    · have hF := hF.2 c_56
                      refine lv_iconst (v := 0) hx hb dL_law_407 (by decide) ?_
                      exact absurd hF (by decide)
                  · have hF := hF.2 c_51
                    by_cases c_57 : ((xs x3_18.toNatClampNeg) &&& (63 : Int32)) = 7
                    · have hF := hF.1 c_57
                      refine lv_tableIn (off := 377) (tgt := 409) hx hb dL_law_32 (by rw [c_57]; decide) (by rw [c_57]; decide) (by rw [c_57]; rfl) (by decide) ?_
                      refine lv_aload_n hx hb dL_law_409 rfl (lv_at hl 1 rfl) ?_
                      refine lv_aload_n hx hb dL_law_410 rfl (lv_at hl 0 rfl) ?_
                      refine lv_iload_n hx hb dL_law_411 rfl (lv_at hl 3 rfl) ?_
                      refine lv_iconst (v := 1) hx hb dL_law_412 (by decide) ?_
                      refine lv_iadd hx hb dL_law_413 ?_
                      obtain ⟨hb_58, hF⟩ := hF
                      refine va_sld hx hb hX hbl hbA hS hb_58 dL_law_414 ?_
                      refine lv_aload_n hx hb dL_law_415 rfl (lv_at hl 0 rfl) ?_
                      refine lv_iload_n hx hb dL_law_416 rfl (lv_at hl 3 rfl) ?_
                      refine lv_iconst (v := 2) hx hb dL_law_417 (by decide) ?_
                      refine lv_iadd hx hb dL_law_418 ?_
                      obtain ⟨hb_59, hF⟩ := hF
                      refine va_sld hx hb hX hbl hbA hS hb_59 dL_law_419 ?_
                      refine goL (rV (rest := []) S hK hP (ctX6_often l D cI cJ ad had (xs (x3_18 + (1 : Int32)).toNatClampNeg) (xs (x3_18 + (2 : Int32)).toNatClampNeg) _ _ hF) (cwV 2 hts gL_law_X6_often rfl rfl rfl hdV_X6_often ⟨Nat.le_of_ble_eq_true rfl, Nat.le_of_ble_eq_true rfl⟩) e_R rfl rfl hl.1 rfl (Nat.le_of_ble_eq_true rfl) dL_law_420 ⟨Nat.le_of_ble_eq_true rfl, Nat.le_of_ble_eq_true rfl⟩) hS hFA (fun r_60 M_60 H locs hP hS hF => ?_)
                      refine lv_aload_n hx hb dL_law_423 rfl (lv_at hl 2 rfl) ?_
                      refine lv_aload_n hx hb dL_law_424 rfl (lv_at hl 0 rfl) ?_
                      refine lv_iload_n hx hb dL_law_425 rfl (lv_at hl 3 rfl) ?_
                      refine lv_iconst (v := 1) hx hb dL_law_426 (by decide) ?_
                      refine lv_iadd hx hb dL_law_427 ?_
                      obtain ⟨hb_61, hF⟩ := hF
                      refine va_sld hx hb hX hbl hbA hS hb_61 dL_law_428 ?_
                      refine lv_aload_n hx hb dL_law_429 rfl (lv_at hl 0 rfl) ?_
                      refine lv_iload_n hx hb dL_law_430 rfl (lv_at hl 3 rfl) ?_
                      refine lv_iconst (v := 2) hx hb dL_law_431 (by decide) ?_
                      refine lv_iadd hx hb dL_law_432 ?_
                      obtain ⟨hb_62, hF⟩ := hF
                      refine va_sld hx hb hX hbl hbA hS hb_62 dL_law_433 ?_
                      refine goL (rV (rest := [.long r_60]) S hK hP (ctX7_often l D cI cJ ad had (xs (x3_18 + (1 : Int32)).toNatClampNeg) (xs (x3_18 + (2 : Int32)).toNatClampNeg) _ _ hF) (cwV 2 hts gL_law_X7_often rfl rfl rfl hdV_X7_often ⟨Nat.le_of_ble_eq_true rfl, Nat.le_of_ble_eq_true rfl⟩) e_M rfl rfl hl.1 rfl (Nat.le_of_ble_eq_true rfl) dL_law_434 ⟨Nat.le_of_ble_eq_true rfl, Nat.le_of_ble_eq_true rfl⟩) hS hFA (fun r_63 M_63 H locs hP hS hF => ?_)
                      refine W.lcmp hx hb dL_law_437 ?_
                      refine lv_if_eq (tgt := 1212) hx hb dL_law_438 (by decide) (fun c_64 => ?_) (fun c_64 => ?_)
                      · have hF := hF.1 (lc_eq.mp c_64)
                        refine lv_iinc (v := (x3_18 + 5)) (lv' := [(3, .int (x3_18 + 5)), (0, .ref b), (1, .ref (ad 0)), (2, .ref (ad 32))]) hx hb dL_law_1212 hl (k := 3) rfl rfl (by decide) rfl (fun ls hl => ?_)
                        refine lv_goto (tgt := 18) hx hb dL_law_1215 (by decide) ?_
                        exact hJ_18 _ _ hF _ _ _ hP hS (lv_sub hl [1, 2, 3, 0] rfl)
                      · have hF := hF.2 (fun q => c_64 (lc_eq.mpr q))
                        refine lv_iconst (v := 0) hx hb dL_law_441 (by decide) ?_
                        exact absurd hF (by decide)
                    · have hF := hF.2 c_57
                      by_cases c_65 : ((xs x3_18.toNatClampNeg) &&& (63 : Int32)) = 8
                      · have hF := hF.1 c_65
                        refine lv_tableIn (off := 411) (tgt := 443) hx hb dL_law_32 (by rw [c_65]; decide) (by rw [c_65]; decide) (by rw [c_65]; rfl) (by decide) ?_
                        refine lv_aload_n hx hb dL_law_443 rfl (lv_at hl 1 rfl) ?_
                        refine lv_aload_n hx hb dL_law_444 rfl (lv_at hl 0 rfl) ?_
                        refine lv_iload_n hx hb dL_law_445 rfl (lv_at hl 3 rfl) ?_
                        refine lv_iconst (v := 1) hx hb dL_law_446 (by decide) ?_
                        refine lv_iadd hx hb dL_law_447 ?_
                        obtain ⟨hb_66, hF⟩ := hF
                        refine va_sld hx hb hX hbl hbA hS hb_66 dL_law_448 ?_
                        refine goL (rV (rest := []) S hK hP (ctX6_mean l D cI cJ ad had (xs (x3_18 + (1 : Int32)).toNatClampNeg) _ _ hF) (cwV 1 hts gL_law_X6_mean rfl rfl rfl hdV_X6_mean ⟨Nat.le_of_ble_eq_true rfl, Nat.le_of_ble_eq_true rfl⟩) e_R rfl rfl hl.1 rfl (Nat.le_of_ble_eq_true rfl) dL_law_449 ⟨Nat.le_of_ble_eq_true rfl, Nat.le_of_ble_eq_true rfl⟩) hS hFA (fun r_67 M_67 H locs hP hS hF => ?_)
                        refine lv_aload_n hx hb dL_law_452 rfl (lv_at hl 2 rfl) ?_
                        refine lv_aload_n hx hb dL_law_453 rfl (lv_at hl 0 rfl) ?_
                        refine lv_iload_n hx hb dL_law_454 rfl (lv_at hl 3 rfl) ?_
                        refine lv_iconst (v := 1) hx hb dL_law_455 (by decide) ?_
                        refine lv_iadd hx hb dL_law_456 ?_
                        obtain ⟨hb_68, hF⟩ := hF
                        refine va_sld hx hb hX hbl hbA hS hb_68 dL_law_457 ?_
                        refine goL (rV (rest := [.long r_67]) S hK hP (ctX7_mean l D cI cJ ad had (xs (x3_18 + (1 : Int32)).toNatClampNeg) _ _ hF) (cwV 1 hts gL_law_X7_mean rfl rfl rfl hdV_X7_mean ⟨Nat.le_of_ble_eq_true rfl, Nat.le_of_ble_eq_true rfl⟩) e_M rfl rfl hl.1 rfl (Nat.le_of_ble_eq_true rfl) dL_law_458 ⟨Nat.le_of_ble_eq_true rfl, Nat.le_of_ble_eq_true rfl⟩) hS hFA (fun r_69 M_69 H locs hP hS hF => ?_)
                        refine W.lcmp hx hb dL_law_461 ?_
                        refine lv_if_eq (tgt := 1212) hx hb dL_law_462 (by decide) (fun c_70 => ?_) (fun c_70 => ?_)
                        · have hF := hF.1 (lc_eq.mp c_70)
                          refine lv_iinc (v := (x3_18 + 5)) (lv' := [(3, .int (x3_18 + 5)), (0, .ref b), (1, .ref (ad 0)), (2, .ref (ad 32))]) hx hb dL_law_1212 hl (k := 3) rfl rfl (by decide) rfl (fun ls hl => ?_)
                          refine lv_goto (tgt := 18) hx hb dL_law_1215 (by decide) ?_
                          exact hJ_18 _ _ hF _ _ _ hP hS (lv_sub hl [1, 2, 3, 0] rfl)
                        · have hF := hF.2 (fun q => c_70 (lc_eq.mpr q))
                          refine lv_iconst (v := 0) hx hb dL_law_465 (by decide) ?_
                          exact absurd hF (by decide)
                      · have hF := hF.2 c_65
                        by_cases c_71 : ((xs x3_18.toNatClampNeg) &&& (63 : Int32)) = 9
                        · have hF := hF.1 c_71
                          refine lv_tableIn (off := 435) (tgt := 467) hx hb dL_law_32 (by rw [c_71]; decide) (by rw [c_71]; decide) (by rw [c_71]; rfl) (by decide) ?_
                          refine lv_aload_n hx hb dL_law_467 rfl (lv_at hl 1 rfl) ?_
                          refine lv_aload_n hx hb dL_law_468 rfl (lv_at hl 0 rfl) ?_
                          refine lv_iload_n hx hb dL_law_469 rfl (lv_at hl 3 rfl) ?_
                          refine lv_iconst (v := 1) hx hb dL_law_470 (by decide) ?_
                          refine lv_iadd hx hb dL_law_471 ?_
                          obtain ⟨hb_72, hF⟩ := hF
                          refine va_sld hx hb hX hbl hbA hS hb_72 dL_law_472 ?_
                          refine lv_aload_n hx hb dL_law_473 rfl (lv_at hl 0 rfl) ?_
                          refine lv_iload_n hx hb dL_law_474 rfl (lv_at hl 3 rfl) ?_
                          refine lv_iconst (v := 2) hx hb dL_law_475 (by decide) ?_
                          refine lv_iadd hx hb dL_law_476 ?_
                          obtain ⟨hb_73, hF⟩ := hF
                          refine va_sld hx hb hX hbl hbA hS hb_73 dL_law_477 ?_
                          refine goL (rV (rest := []) S hK hP (ctX6_on l D cI cJ ad had (xs (x3_18 + (1 : Int32)).toNatClampNeg) (xs (x3_18 + (2 : Int32)).toNatClampNeg) _ _ hF) (cwV 2 hts gL_law_X6_on rfl rfl rfl hdV_X6_on ⟨Nat.le_of_ble_eq_true rfl, Nat.le_of_ble_eq_true rfl⟩) e_R rfl rfl hl.1 rfl (Nat.le_of_ble_eq_true rfl) dL_law_478 ⟨Nat.le_of_ble_eq_true rfl, Nat.le_of_ble_eq_true rfl⟩) hS hFA (fun r_74 M_74 H locs hP hS hF => ?_)
                          refine lv_aload_n hx hb dL_law_481 rfl (lv_at hl 2 rfl) ?_
                          refine lv_aload_n hx hb dL_law_482 rfl (lv_at hl 0 rfl) ?_
                          refine lv_iload_n hx hb dL_law_483 rfl (lv_at hl 3 rfl) ?_
                          refine lv_iconst (v := 1) hx hb dL_law_484 (by decide) ?_
                          refine lv_iadd hx hb dL_law_485 ?_
                          obtain ⟨hb_75, hF⟩ := hF
                          refine va_sld hx hb hX hbl hbA hS hb_75 dL_law_486 ?_
                          refine lv_aload_n hx hb dL_law_487 rfl (lv_at hl 0 rfl) ?_
                          refine lv_iload_n hx hb dL_law_488 rfl (lv_at hl 3 rfl) ?_
                          refine lv_iconst (v := 2) hx hb dL_law_489 (by decide) ?_
                          refine lv_iadd hx hb dL_law_490 ?_
                          obtain ⟨hb_76, hF⟩ := hF
                          refine va_sld hx hb hX hbl hbA hS hb_76 dL_law_491 ?_
                          refine goL (rV (rest := [.long r_74]) S hK hP (ctX7_on l D cI cJ ad had (xs (x3_18 + (1 : Int32)).toNatClampNeg) (xs (x3_18 + (2 : Int32)).toNatClampNeg) _ _ hF) (cwV 2 hts gL_law_X7_on rfl rfl rfl hdV_X7_on ⟨Nat.le_of_ble_eq_true rfl, Nat.le_of_ble_eq_true rfl⟩) e_M rfl rfl hl.1 rfl (Nat.le_of_ble_eq_true rfl) dL_law_492 ⟨Nat.le_of_ble_eq_true rfl, Nat.le_of_ble_eq_true rfl⟩) hS hFA (fun r_77 M_77 H locs hP hS hF => ?_)
                          refine W.lcmp hx hb dL_law_495 ?_
                          refine lv_if_eq (tgt := 1212) hx hb dL_law_496 (by decide) (fun c_78 => ?_) (fun c_78 => ?_)
                          · have hF := hF.1 (lc_eq.mp c_78)
                            refine lv_iinc (v := (x3_18 + 5)) (lv' := [(3, .int (x3_18 + 5)), (0, .ref b), (1, .ref (ad 0)), (2, .ref (ad 32))]) hx hb dL_law_1212 hl (k := 3) rfl rfl (by decide) rfl (fun ls hl => ?_)
                            refine lv_goto (tgt := 18) hx hb dL_law_1215 (by decide) ?_
                            exact hJ_18 _ _ hF _ _ _ hP hS (lv_sub hl [1, 2, 3, 0] rfl)
                          · have hF := hF.2 (fun q => c_78 (lc_eq.mpr q))
                            refine lv_iconst (v := 0) hx hb dL_law_499 (by decide) ?_
                            exact absurd hF (by decide)
                        · have hF := hF.2 c_71
                          by_cases c_79 : ((xs x3_18.toNatClampNeg) &&& (63 : Int32)) = 10
                          · have hF := hF.1 c_79
                            refine lv_tableIn (off := 469) (tgt := 501) hx hb dL_law_32 (by rw [c_79]; decide) (by rw [c_79]; decide) (by rw [c_79]; rfl) (by decide) ?_
                            refine lv_aload_n hx hb dL_law_501 rfl (lv_at hl 1 rfl) ?_
                            refine lv_aload_n hx hb dL_law_502 rfl (lv_at hl 0 rfl) ?_
                            refine lv_iload_n hx hb dL_law_503 rfl (lv_at hl 3 rfl) ?_
                            refine lv_iconst (v := 1) hx hb dL_law_504 (by decide) ?_
                            refine lv_iadd hx hb dL_law_505 ?_
                            obtain ⟨hb_80, hF⟩ := hF
                            refine va_sld hx hb hX hbl hbA hS hb_80 dL_law_506 ?_
                            refine lv_aload_n hx hb dL_law_507 rfl (lv_at hl 0 rfl) ?_
                            refine lv_iload_n hx hb dL_law_508 rfl (lv_at hl 3 rfl) ?_
                            refine lv_iconst (v := 2) hx hb dL_law_509 (by decide) ?_
                            refine lv_iadd hx hb dL_law_510 ?_
                            obtain ⟨hb_81, hF⟩ := hF
                            refine va_sld hx hb hX hbl hbA hS hb_81 dL_law_511 ?_
                            refine goL (rV (rest := []) S hK hP (ctX6_less l D cI cJ ad had (xs (x3_18 + (1 : Int32)).toNatClampNeg) (xs (x3_18 + (2 : Int32)).toNatClampNeg) _ _ hF) (cwV 2 hts gL_law_X6_less rfl rfl rfl hdV_X6_less ⟨Nat.le_of_ble_eq_true rfl, Nat.le_of_ble_eq_true rfl⟩) e_R rfl rfl hl.1 rfl (Nat.le_of_ble_eq_true rfl) dL_law_512 ⟨Nat.le_of_ble_eq_true rfl, Nat.le_of_ble_eq_true rfl⟩) hS hFA (fun r_82 M_82 H locs hP hS hF => ?_)
                            refine lv_aload_n hx hb dL_law_515 rfl (lv_at hl 2 rfl) ?_
                            refine lv_aload_n hx hb dL_law_516 rfl (lv_at hl 0 rfl) ?_
                            refine lv_iload_n hx hb dL_law_517 rfl (lv_at hl 3 rfl) ?_
                            refine lv_iconst (v := 1) hx hb dL_law_518 (by decide) ?_
                            refine lv_iadd hx hb dL_law_519 ?_
                            obtain ⟨hb_83, hF⟩ := hF
                            refine va_sld hx hb hX hbl hbA hS hb_83 dL_law_520 ?_
                            refine lv_aload_n hx hb dL_law_521 rfl (lv_at hl 0 rfl) ?_
                            refine lv_iload_n hx hb dL_law_522 rfl (lv_at hl 3 rfl) ?_
                            refine lv_iconst (v := 2) hx hb dL_law_523 (by decide) ?_
                            refine lv_iadd hx hb dL_law_524 ?_
                            obtain ⟨hb_84, hF⟩ := hF
                            refine va_sld hx hb hX hbl hbA hS hb_84 dL_law_525 ?_
                            refine goL (rV (rest := [.long r_82]) S hK hP (ctX7_less l D cI cJ ad had (xs (x3_18 + (1 : Int32)).toNatClampNeg) (xs (x3_18 + (2 : Int32)).toNatClampNeg) _ _ hF) (cwV 2 hts gL_law_X7_less rfl rfl rfl hdV_X7_less ⟨Nat.le_of_ble_eq_true rfl, Nat.le_of_ble_eq_true rfl⟩) e_M rfl rfl hl.1 rfl (Nat.le_of_ble_eq_true rfl) dL_law_526 ⟨Nat.le_of_ble_eq_true rfl, Nat.le_of_ble_eq_true rfl⟩) hS hFA (fun r_85 M_85 H locs hP hS hF => ?_)
                            refine W.lcmp hx hb dL_law_529 ?_
                            refine lv_if_eq (tgt := 1212) hx hb dL_law_530 (by decide) (fun c_86 => ?_) (fun c_86 => ?_)
                            · have hF := hF.1 (lc_eq.mp c_86)
                              refine lv_iinc (v := (x3_18 + 5)) (lv' := [(3, .int (x3_18 + 5)), (0, .ref b), (1, .ref (ad 0)), (2, .ref (ad 32))]) hx hb dL_law_1212 hl (k := 3) rfl rfl (by decide) rfl (fun ls hl => ?_)
                              refine lv_goto (tgt := 18) hx hb dL_law_1215 (by decide) ?_
                              exact hJ_18 _ _ hF _ _ _ hP hS (lv_sub hl [1, 2, 3, 0] rfl)
                            · have hF := hF.2 (fun q => c_86 (lc_eq.mpr q))
                              refine lv_iconst (v := 0) hx hb dL_law_533 (by decide) ?_
                              exact absurd hF (by decide)
                          · have hF := hF.2 c_79
                            by_cases c_87 : ((xs x3_18.toNatClampNeg) &&& (63 : Int32)) = 11
                            · have hF := hF.1 c_87
                              refine lv_tableIn (off := 503) (tgt := 535) hx hb dL_law_32 (by rw [c_87]; decide) (by rw [c_87]; decide) (by rw [c_87]; rfl) (by decide) ?_
                              refine lv_aload_n hx hb dL_law_535 rfl (lv_at hl 1 rfl) ?_
                              refine lv_aload_n hx hb dL_law_536 rfl (lv_at hl 0 rfl) ?_
                              refine lv_iload_n hx hb dL_law_537 rfl (lv_at hl 3 rfl) ?_
                              refine lv_iconst (v := 1) hx hb dL_law_538 (by decide) ?_
                              refine lv_iadd hx hb dL_law_539 ?_
                              obtain ⟨hb_88, hF⟩ := hF
                              refine va_sld hx hb hX hbl hbA hS hb_88 dL_law_540 ?_
                              refine lv_aload_n hx hb dL_law_541 rfl (lv_at hl 0 rfl) ?_
                              refine lv_iload_n hx hb dL_law_542 rfl (lv_at hl 3 rfl) ?_
                              refine lv_iconst (v := 2) hx hb dL_law_543 (by decide) ?_
                              refine lv_iadd hx hb dL_law_544 ?_
                              obtain ⟨hb_89, hF⟩ := hF
                              refine va_sld hx hb hX hbl hbA hS hb_89 dL_law_545 ?_
                              refine lv_aload_n hx hb dL_law_546 rfl (lv_at hl 0 rfl) ?_
                              refine lv_iload_n hx hb dL_law_547 rfl (lv_at hl 3 rfl) ?_
                              refine lv_iconst (v := 3) hx hb dL_law_548 (by decide) ?_
                              refine lv_iadd hx hb dL_law_549 ?_
                              obtain ⟨hb_90, hF⟩ := hF
                              refine va_sld hx hb hX hbl hbA hS hb_90 dL_law_550 ?_
                              refine lv_aload_n hx hb dL_law_551 rfl (lv_at hl 0 rfl) ?_
                              refine lv_iload_n hx hb dL_law_552 rfl (lv_at hl 3 rfl) ?_
                              refine lv_iconst (v := 4) hx hb dL_law_553 (by decide) ?_
                              refine lv_iadd hx hb dL_law_554 ?_
                              obtain ⟨hb_91, hF⟩ := hF
                              refine va_sld hx hb hX hbl hbA hS hb_91 dL_law_555 ?_
                              refine goL (rV (rest := []) S hK hP (ctX6_after l D cI cJ ad had (xs (x3_18 + (1 : Int32)).toNatClampNeg) (xs (x3_18 + (2 : Int32)).toNatClampNeg) (xs (x3_18 + (3 : Int32)).toNatClampNeg) (xs (x3_18 + (4 : Int32)).toNatClampNeg) _ _ hF) (cwV 4 hts gL_law_X6_after rfl rfl rfl hdV_X6_after ⟨Nat.le_of_ble_eq_true rfl, Nat.le_of_ble_eq_true rfl⟩) e_R rfl rfl hl.1 rfl (Nat.le_of_ble_eq_true rfl) dL_law_556 ⟨Nat.le_of_ble_eq_true rfl, Nat.le_of_ble_eq_true rfl⟩) hS hFA (fun r_92 M_92 H locs hP hS hF => ?_)
                              refine lv_aload_n hx hb dL_law_559 rfl (lv_at hl 2 rfl) ?_
                              refine lv_aload_n hx hb dL_law_560 rfl (lv_at hl 0 rfl) ?_
                              refine lv_iload_n hx hb dL_law_561 rfl (lv_at hl 3 rfl) ?_
                              refine lv_iconst (v := 1) hx hb dL_law_562 (by decide) ?_
                              refine lv_iadd hx hb dL_law_563 ?_
                              obtain ⟨hb_93, hF⟩ := hF
                              refine va_sld hx hb hX hbl hbA hS hb_93 dL_law_564 ?_
                              refine lv_aload_n hx hb dL_law_565 rfl (lv_at hl 0 rfl) ?_
                              refine lv_iload_n hx hb dL_law_566 rfl (lv_at hl 3 rfl) ?_
                              refine lv_iconst (v := 2) hx hb dL_law_567 (by decide) ?_
                              refine lv_iadd hx hb dL_law_568 ?_
                              obtain ⟨hb_94, hF⟩ := hF
                              refine va_sld hx hb hX hbl hbA hS hb_94 dL_law_569 ?_
                              refine lv_aload_n hx hb dL_law_570 rfl (lv_at hl 0 rfl) ?_
                              refine lv_iload_n hx hb dL_law_571 rfl (lv_at hl 3 rfl) ?_
                              refine lv_iconst (v := 3) hx hb dL_law_572 (by decide) ?_
                              refine lv_iadd hx hb dL_law_573 ?_
                              obtain ⟨hb_95, hF⟩ := hF
                              refine va_sld hx hb hX hbl hbA hS hb_95 dL_law_574 ?_
                              refine lv_aload_n hx hb dL_law_575 rfl (lv_at hl 0 rfl) ?_
                              refine lv_iload_n hx hb dL_law_576 rfl (lv_at hl 3 rfl) ?_
                              refine lv_iconst (v := 4) hx hb dL_law_577 (by decide) ?_
                              refine lv_iadd hx hb dL_law_578 ?_
                              obtain ⟨hb_96, hF⟩ := hF
                              refine va_sld hx hb hX hbl hbA hS hb_96 dL_law_579 ?_
                              refine goL (rV (rest := [.long r_92]) S hK hP (ctX7_after l D cI cJ ad had (xs (x3_18 + (1 : Int32)).toNatClampNeg) (xs (x3_18 + (2 : Int32)).toNatClampNeg) (xs (x3_18 + (3 : Int32)).toNatClampNeg) (xs (x3_18 + (4 : Int32)).toNatClampNeg) _ _ hF) (cwV 4 hts gL_law_X7_after rfl rfl rfl hdV_X7_after ⟨Nat.le_of_ble_eq_true rfl, Nat.le_of_ble_eq_true rfl⟩) e_M rfl rfl hl.1 rfl (Nat.le_of_ble_eq_true rfl) dL_law_580 ⟨Nat.le_of_ble_eq_true rfl, Nat.le_of_ble_eq_true rfl⟩) hS hFA (fun r_97 M_97 H locs hP hS hF => ?_)
                              refine W.lcmp hx hb dL_law_583 ?_
                              refine lv_if_eq (tgt := 1212) hx hb dL_law_584 (by decide) (fun c_98 => ?_) (fun c_98 => ?_)
                              · have hF := hF.1 (lc_eq.mp c_98)
                                refine lv_iinc (v := (x3_18 + 5)) (lv' := [(3, .int (x3_18 + 5)), (0, .ref b), (1, .ref (ad 0)), (2, .ref (ad 32))]) hx hb dL_law_1212 hl (k := 3) rfl rfl (by decide) rfl (fun ls hl => ?_)
                                refine lv_goto (tgt := 18) hx hb dL_law_1215 (by decide) ?_
                                exact hJ_18 _ _ hF _ _ _ hP hS (lv_sub hl [1, 2, 3, 0] rfl)
                              · have hF := hF.2 (fun q => c_98 (lc_eq.mpr q))
                                refine lv_iconst (v := 0) hx hb dL_law_587 (by decide) ?_
                                exact absurd hF (by decide)
                            · have hF := hF.2 c_87
                              by_cases c_99 : ((xs x3_18.toNatClampNeg) &&& (63 : Int32)) = 12
                              · have hF := hF.1 c_99
                                refine lv_tableIn (off := 557) (tgt := 589) hx hb dL_law_32 (by rw [c_99]; decide) (by rw [c_99]; decide) (by rw [c_99]; rfl) (by decide) ?_
                                refine lv_aload_n hx hb dL_law_589 rfl (lv_at hl 1 rfl) ?_
                                refine lv_aload_n hx hb dL_law_590 rfl (lv_at hl 0 rfl) ?_
                                refine lv_iload_n hx hb dL_law_591 rfl (lv_at hl 3 rfl) ?_
                                refine lv_iconst (v := 1) hx hb dL_law_592 (by decide) ?_
                                refine lv_iadd hx hb dL_law_593 ?_
                                obtain ⟨hb_100, hF⟩ := hF
                                refine va_sld hx hb hX hbl hbA hS hb_100 dL_law_594 ?_
                                refine lv_aload_n hx hb dL_law_595 rfl (lv_at hl 0 rfl) ?_
                                refine lv_iload_n hx hb dL_law_596 rfl (lv_at hl 3 rfl) ?_
                                refine lv_iconst (v := 2) hx hb dL_law_597 (by decide) ?_
                                refine lv_iadd hx hb dL_law_598 ?_
                                obtain ⟨hb_101, hF⟩ := hF
                                refine va_sld hx hb hX hbl hbA hS hb_101 dL_law_599 ?_
                                refine goL (rV (rest := []) S hK hP (ctX6_minutes l D cI cJ ad had (xs (x3_18 + (1 : Int32)).toNatClampNeg) (xs (x3_18 + (2 : Int32)).toNatClampNeg) _ _ hF) (cwV 2 hts gL_law_X6_minutes rfl rfl rfl hdV_X6_minutes ⟨Nat.le_of_ble_eq_true rfl, Nat.le_of_ble_eq_true rfl⟩) e_R rfl rfl hl.1 rfl (Nat.le_of_ble_eq_true rfl) dL_law_600 ⟨Nat.le_of_ble_eq_true rfl, Nat.le_of_ble_eq_true rfl⟩) hS hFA (fun r_102 M_102 H locs hP hS hF => ?_)
                                refine lv_aload_n hx hb dL_law_603 rfl (lv_at hl 2 rfl) ?_
                                refine lv_aload_n hx hb dL_law_604 rfl (lv_at hl 0 rfl) ?_
                                refine lv_iload_n hx hb dL_law_605 rfl (lv_at hl 3 rfl) ?_
                                refine lv_iconst (v := 1) hx hb dL_law_606 (by decide) ?_
                                refine lv_iadd hx hb dL_law_607 ?_
                                obtain ⟨hb_103, hF⟩ := hF
                                refine va_sld hx hb hX hbl hbA hS hb_103 dL_law_608 ?_
                                refine lv_aload_n hx hb dL_law_609 rfl (lv_at hl 0 rfl) ?_
                                refine lv_iload_n hx hb dL_law_610 rfl (lv_at hl 3 rfl) ?_
                                refine lv_iconst (v := 2) hx hb dL_law_611 (by decide) ?_
                                refine lv_iadd hx hb dL_law_612 ?_
                                obtain ⟨hb_104, hF⟩ := hF
                                refine va_sld hx hb hX hbl hbA hS hb_104 dL_law_613 ?_
                                refine goL (rV (rest := [.long r_102]) S hK hP (ctX7_minutes l D cI cJ ad had (xs (x3_18 + (1 : Int32)).toNatClampNeg) (xs (x3_18 + (2 : Int32)).toNatClampNeg) _ _ hF) (cwV 2 hts gL_law_X7_minutes rfl rfl rfl hdV_X7_minutes ⟨Nat.le_of_ble_eq_true rfl, Nat.le_of_ble_eq_true rfl⟩) e_M rfl rfl hl.1 rfl (Nat.le_of_ble_eq_true rfl) dL_law_614 ⟨Nat.le_of_ble_eq_true rfl, Nat.le_of_ble_eq_true rfl⟩) hS hFA (fun r_105 M_105 H locs hP hS hF => ?_)
                                refine W.lcmp hx hb dL_law_617 ?_
                                refine lv_if_eq (tgt := 1212) hx hb dL_law_618 (by decide) (fun c_106 => ?_) (fun c_106 => ?_)
                                · have hF := hF.1 (lc_eq.mp c_106)
                                  refine lv_iinc (v := (x3_18 + 5)) (lv' := [(3, .int (x3_18 + 5)), (0, .ref b), (1, .ref (ad 0)), (2, .ref (ad 32))]) hx hb dL_law_1212 hl (k := 3) rfl rfl (by decide) rfl (fun ls hl => ?_)
                                  refine lv_goto (tgt := 18) hx hb dL_law_1215 (by decide) ?_
                                  exact hJ_18 _ _ hF _ _ _ hP hS (lv_sub hl [1, 2, 3, 0] rfl)
                                · have hF := hF.2 (fun q => c_106 (lc_eq.mpr q))
                                  refine lv_iconst (v := 0) hx hb dL_law_621 (by decide) ?_
                                  exact absurd hF (by decide)
                              · have hF := hF.2 c_99
                                by_cases c_107 : ((xs x3_18.toNatClampNeg) &&& (63 : Int32)) = 13
                                · have hF := hF.1 c_107
                                  refine lv_tableIn (off := 591) (tgt := 623) hx hb dL_law_32 (by rw [c_107]; decide) (by rw [c_107]; decide) (by rw [c_107]; rfl) (by decide) ?_
                                  refine lv_aload_n hx hb dL_law_623 rfl (lv_at hl 1 rfl) ?_
                                  refine lv_aload_n hx hb dL_law_624 rfl (lv_at hl 0 rfl) ?_
                                  refine lv_iload_n hx hb dL_law_625 rfl (lv_at hl 3 rfl) ?_
                                  refine lv_iconst (v := 1) hx hb dL_law_626 (by decide) ?_
                                  refine lv_iadd hx hb dL_law_627 ?_
                                  obtain ⟨hb_108, hF⟩ := hF
                                  refine va_sld hx hb hX hbl hbA hS hb_108 dL_law_628 ?_
                                  refine goL (rV (rest := []) S hK hP (ctX6_gain l D cI cJ ad had (xs (x3_18 + (1 : Int32)).toNatClampNeg) _ _ hF) (cwV 1 hts gL_law_X6_gain rfl rfl rfl hdV_X6_gain ⟨Nat.le_of_ble_eq_true rfl, Nat.le_of_ble_eq_true rfl⟩) e_R rfl rfl hl.1 rfl (Nat.le_of_ble_eq_true rfl) dL_law_629 ⟨Nat.le_of_ble_eq_true rfl, Nat.le_of_ble_eq_true rfl⟩) hS hFA (fun r_109 M_109 H locs hP hS hF => ?_)
                                  refine lv_aload_n hx hb dL_law_632 rfl (lv_at hl 2 rfl) ?_
                                  refine lv_aload_n hx hb dL_law_633 rfl (lv_at hl 0 rfl) ?_
                                  refine lv_iload_n hx hb dL_law_634 rfl (lv_at hl 3 rfl) ?_
                                  refine lv_iconst (v := 1) hx hb dL_law_635 (by decide) ?_
                                  refine lv_iadd hx hb dL_law_636 ?_
                                  obtain ⟨hb_110, hF⟩ := hF
                                  refine va_sld hx hb hX hbl hbA hS hb_110 dL_law_637 ?_
                                  refine goL (rV (rest := [.long r_109]) S hK hP (ctX7_gain l D cI cJ ad had (xs (x3_18 + (1 : Int32)).toNatClampNeg) _ _ hF) (cwV 1 hts gL_law_X7_gain rfl rfl rfl hdV_X7_gain ⟨Nat.le_of_ble_eq_true rfl, Nat.le_of_ble_eq_true rfl⟩) e_M rfl rfl hl.1 rfl (Nat.le_of_ble_eq_true rfl) dL_law_638 ⟨Nat.le_of_ble_eq_true rfl, Nat.le_of_ble_eq_true rfl⟩) hS hFA (fun r_111 M_111 H locs hP hS hF => ?_)
                                  refine W.lcmp hx hb dL_law_641 ?_
                                  refine lv_if_eq (tgt := 1212) hx hb dL_law_642 (by decide) (fun c_112 => ?_) (fun c_112 => ?_)
                                  · have hF := hF.1 (lc_eq.mp c_112)
                                    refine lv_iinc (v := (x3_18 + 5)) (lv' := [(3, .int (x3_18 + 5)), (0, .ref b), (1, .ref (ad 0)), (2, .ref (ad 32))]) hx hb dL_law_1212 hl (k := 3) rfl rfl (by decide) rfl (fun ls hl => ?_)
                                    refine lv_goto (tgt := 18) hx hb dL_law_1215 (by decide) ?_
                                    exact hJ_18 _ _ hF _ _ _ hP hS (lv_sub hl [1, 2, 3, 0] rfl)
                                  · have hF := hF.2 (fun q => c_112 (lc_eq.mpr q))
                                    refine lv_iconst (v := 0) hx hb dL_law_645 (by decide) ?_
                                    exact absurd hF (by decide)
                                · have hF := hF.2 c_107
                                  by_cases c_113 : ((xs x3_18.toNatClampNeg) &&& (63 : Int32)) = 14
                                  · have hF := hF.1 c_113
                                    refine lv_tableIn (off := 615) (tgt := 647) hx hb dL_law_32 (by rw [c_113]; decide) (by rw [c_113]; decide) (by rw [c_113]; rfl) (by decide) ?_
                                    refine lv_aload_n hx hb dL_law_647 rfl (lv_at hl 1 rfl) ?_
                                    refine lv_aload_n hx hb dL_law_648 rfl (lv_at hl 0 rfl) ?_
                                    refine lv_iload_n hx hb dL_law_649 rfl (lv_at hl 3 rfl) ?_
                                    refine lv_iconst (v := 1) hx hb dL_law_650 (by decide) ?_
                                    refine lv_iadd hx hb dL_law_651 ?_
                                    obtain ⟨hb_114, hF⟩ := hF
                                    refine va_sld hx hb hX hbl hbA hS hb_114 dL_law_652 ?_
                                    refine goI (rV (rest := []) S hK hP (ctX6_best l D cI cJ ad had (xs (x3_18 + (1 : Int32)).toNatClampNeg) _ _ hF) (cwV 1 hts gL_law_X6_best rfl rfl rfl hdV_X6_best ⟨Nat.le_of_ble_eq_true rfl, Nat.le_of_ble_eq_true rfl⟩) e_R rfl rfl hl.1 rfl (Nat.le_of_ble_eq_true rfl) dL_law_653 ⟨Nat.le_of_ble_eq_true rfl, Nat.le_of_ble_eq_true rfl⟩) hS hFA (fun r_115 M_115 H locs hP hS hF => ?_)
                                    refine lv_aload_n hx hb dL_law_656 rfl (lv_at hl 2 rfl) ?_
                                    refine lv_aload_n hx hb dL_law_657 rfl (lv_at hl 0 rfl) ?_
                                    refine lv_iload_n hx hb dL_law_658 rfl (lv_at hl 3 rfl) ?_
                                    refine lv_iconst (v := 1) hx hb dL_law_659 (by decide) ?_
                                    refine lv_iadd hx hb dL_law_660 ?_
                                    obtain ⟨hb_116, hF⟩ := hF
                                    refine va_sld hx hb hX hbl hbA hS hb_116 dL_law_661 ?_
                                    refine goI (rV (rest := [.int r_115]) S hK hP (ctX7_best l D cI cJ ad had (xs (x3_18 + (1 : Int32)).toNatClampNeg) _ _ hF) (cwV 1 hts gL_law_X7_best rfl rfl rfl hdV_X7_best ⟨Nat.le_of_ble_eq_true rfl, Nat.le_of_ble_eq_true rfl⟩) e_M rfl rfl hl.1 rfl (Nat.le_of_ble_eq_true rfl) dL_law_662 ⟨Nat.le_of_ble_eq_true rfl, Nat.le_of_ble_eq_true rfl⟩) hS hFA (fun r_117 M_117 H locs hP hS hF => ?_)
                                    refine lv_icmp_eq (tgt := 1212) hx hb dL_law_665 (by decide) (fun c_118 => ?_) (fun c_118 => ?_)
                                    · have hF := hF.1 c_118
                                      refine lv_iinc (v := (x3_18 + 5)) (lv' := [(3, .int (x3_18 + 5)), (0, .ref b), (1, .ref (ad 0)), (2, .ref (ad 32))]) hx hb dL_law_1212 hl (k := 3) rfl rfl (by decide) rfl (fun ls hl => ?_)
                                      refine lv_goto (tgt := 18) hx hb dL_law_1215 (by decide) ?_
                                      exact hJ_18 _ _ hF _ _ _ hP hS (lv_sub hl [1, 2, 3, 0] rfl)
                                    · have hF := hF.2 c_118
                                      refine lv_iconst (v := 0) hx hb dL_law_668 (by decide) ?_
                                      exact absurd hF (by decide)
                                  · have hF := hF.2 c_113
                                    by_cases c_119 : ((xs x3_18.toNatClampNeg) &&& (63 : Int32)) = 15
                                    · have hF := hF.1 c_119
                                      refine lv_tableIn (off := 638) (tgt := 670) hx hb dL_law_32 (by rw [c_119]; decide) (by rw [c_119]; decide) (by rw [c_119]; rfl) (by decide) ?_
                                      refine lv_aload_n hx hb dL_law_670 rfl (lv_at hl 1 rfl) ?_
                                      refine lv_aload_n hx hb dL_law_671 rfl (lv_at hl 0 rfl) ?_
                                      refine lv_iload_n hx hb dL_law_672 rfl (lv_at hl 3 rfl) ?_
                                      refine lv_iconst (v := 1) hx hb dL_law_673 (by decide) ?_
                                      refine lv_iadd hx hb dL_law_674 ?_
                                      obtain ⟨hb_120, hF⟩ := hF
                                      refine va_sld hx hb hX hbl hbA hS hb_120 dL_law_675 ?_
                                      refine lv_aload_n hx hb dL_law_676 rfl (lv_at hl 0 rfl) ?_
                                      refine lv_iload_n hx hb dL_law_677 rfl (lv_at hl 3 rfl) ?_
                                      refine lv_iconst (v := 2) hx hb dL_law_678 (by decide) ?_
                                      refine lv_iadd hx hb dL_law_679 ?_
                                      obtain ⟨hb_121, hF⟩ := hF
                                      refine va_sld hx hb hX hbl hbA hS hb_121 dL_law_680 ?_
                                      refine goI (rV (rest := []) S hK hP (ctX6_against l D cI cJ ad had (xs (x3_18 + (1 : Int32)).toNatClampNeg) (xs (x3_18 + (2 : Int32)).toNatClampNeg) _ _ hF) (cwV 2 hts gL_law_X6_against rfl rfl rfl hdV_X6_against ⟨Nat.le_of_ble_eq_true rfl, Nat.le_of_ble_eq_true rfl⟩) e_R rfl rfl hl.1 rfl (Nat.le_of_ble_eq_true rfl) dL_law_681 ⟨Nat.le_of_ble_eq_true rfl, Nat.le_of_ble_eq_true rfl⟩) hS hFA (fun r_122 M_122 H locs hP hS hF => ?_)
                                      refine lv_aload_n hx hb dL_law_684 rfl (lv_at hl 2 rfl) ?_
                                      refine lv_aload_n hx hb dL_law_685 rfl (lv_at hl 0 rfl) ?_
                                      refine lv_iload_n hx hb dL_law_686 rfl (lv_at hl 3 rfl) ?_
                                      refine lv_iconst (v := 1) hx hb dL_law_687 (by decide) ?_
                                      refine lv_iadd hx hb dL_law_688 ?_
                                      obtain ⟨hb_123, hF⟩ := hF
                                      refine va_sld hx hb hX hbl hbA hS hb_123 dL_law_689 ?_
                                      refine lv_aload_n hx hb dL_law_690 rfl (lv_at hl 0 rfl) ?_
                                      refine lv_iload_n hx hb dL_law_691 rfl (lv_at hl 3 rfl) ?_
                                      refine lv_iconst (v := 2) hx hb dL_law_692 (by decide) ?_
                                      refine lv_iadd hx hb dL_law_693 ?_
                                      obtain ⟨hb_124, hF⟩ := hF
                                      refine va_sld hx hb hX hbl hbA hS hb_124 dL_law_694 ?_
                                      refine goI (rV (rest := [.int r_122]) S hK hP (ctX7_against l D cI cJ ad had (xs (x3_18 + (1 : Int32)).toNatClampNeg) (xs (x3_18 + (2 : Int32)).toNatClampNeg) _ _ hF) (cwV 2 hts gL_law_X7_against rfl rfl rfl hdV_X7_against ⟨Nat.le_of_ble_eq_true rfl, Nat.le_of_ble_eq_true rfl⟩) e_M rfl rfl hl.1 rfl (Nat.le_of_ble_eq_true rfl) dL_law_695 ⟨Nat.le_of_ble_eq_true rfl, Nat.le_of_ble_eq_true rfl⟩) hS hFA (fun r_125 M_125 H locs hP hS hF => ?_)
                                      refine lv_icmp_eq (tgt := 1212) hx hb dL_law_698 (by decide) (fun c_126 => ?_) (fun c_126 => ?_)
                                      · have hF := hF.1 c_126
                                        refine lv_iinc (v := (x3_18 + 5)) (lv' := [(3, .int (x3_18 + 5)), (0, .ref b), (1, .ref (ad 0)), (2, .ref (ad 32))]) hx hb dL_law_1212 hl (k := 3) rfl rfl (by decide) rfl (fun ls hl => ?_)
                                        refine lv_goto (tgt := 18) hx hb dL_law_1215 (by decide) ?_
                                        exact hJ_18 _ _ hF _ _ _ hP hS (lv_sub hl [1, 2, 3, 0] rfl)
                                      · have hF := hF.2 c_126
                                        refine lv_iconst (v := 0) hx hb dL_law_701 (by decide) ?_
                                        exact absurd hF (by decide)
                                    · have hF := hF.2 c_119
                                      by_cases c_127 : ((xs x3_18.toNatClampNeg) &&& (63 : Int32)) = 16
                                      · have hF := hF.1 c_127
                                        refine lv_tableIn (off := 671) (tgt := 703) hx hb dL_law_32 (by rw [c_127]; decide) (by rw [c_127]; decide) (by rw [c_127]; rfl) (by decide) ?_
                                        refine lv_aload_n hx hb dL_law_703 rfl (lv_at hl 1 rfl) ?_
                                        refine lv_aload_n hx hb dL_law_704 rfl (lv_at hl 0 rfl) ?_
                                        refine lv_iload_n hx hb dL_law_705 rfl (lv_at hl 3 rfl) ?_
                                        refine lv_iconst (v := 1) hx hb dL_law_706 (by decide) ?_
                                        refine lv_iadd hx hb dL_law_707 ?_
                                        obtain ⟨hb_128, hF⟩ := hF
                                        refine va_sld hx hb hX hbl hbA hS hb_128 dL_law_708 ?_
                                        refine goI (rV (rest := []) S hK hP (ctX6_mends l D cI cJ ad had (xs (x3_18 + (1 : Int32)).toNatClampNeg) _ _ hF) (cwV 1 hts gL_law_X6_mends rfl rfl rfl hdV_X6_mends ⟨Nat.le_of_ble_eq_true rfl, Nat.le_of_ble_eq_true rfl⟩) e_R rfl rfl hl.1 rfl (Nat.le_of_ble_eq_true rfl) dL_law_709 ⟨Nat.le_of_ble_eq_true rfl, Nat.le_of_ble_eq_true rfl⟩) hS hFA (fun r_129 M_129 H locs hP hS hF => ?_)
                                        refine lv_aload_n hx hb dL_law_712 rfl (lv_at hl 2 rfl) ?_
                                        refine lv_aload_n hx hb dL_law_713 rfl (lv_at hl 0 rfl) ?_
                                        refine lv_iload_n hx hb dL_law_714 rfl (lv_at hl 3 rfl) ?_
                                        refine lv_iconst (v := 1) hx hb dL_law_715 (by decide) ?_
                                        refine lv_iadd hx hb dL_law_716 ?_
                                        obtain ⟨hb_130, hF⟩ := hF
                                        refine va_sld hx hb hX hbl hbA hS hb_130 dL_law_717 ?_
                                        refine goI (rV (rest := [.int r_129]) S hK hP (ctX7_mends l D cI cJ ad had (xs (x3_18 + (1 : Int32)).toNatClampNeg) _ _ hF) (cwV 1 hts gL_law_X7_mends rfl rfl rfl hdV_X7_mends ⟨Nat.le_of_ble_eq_true rfl, Nat.le_of_ble_eq_true rfl⟩) e_M rfl rfl hl.1 rfl (Nat.le_of_ble_eq_true rfl) dL_law_718 ⟨Nat.le_of_ble_eq_true rfl, Nat.le_of_ble_eq_true rfl⟩) hS hFA (fun r_131 M_131 H locs hP hS hF => ?_)
                                        refine lv_icmp_eq (tgt := 1212) hx hb dL_law_721 (by decide) (fun c_132 => ?_) (fun c_132 => ?_)
                                        · have hF := hF.1 c_132
                                          refine lv_iinc (v := (x3_18 + 5)) (lv' := [(3, .int (x3_18 + 5)), (0, .ref b), (1, .ref (ad 0)), (2, .ref (ad 32))]) hx hb dL_law_1212 hl (k := 3) rfl rfl (by decide) rfl (fun ls hl => ?_)
                                          refine lv_goto (tgt := 18) hx hb dL_law_1215 (by decide) ?_
                                          exact hJ_18 _ _ hF _ _ _ hP hS (lv_sub hl [1, 2, 3, 0] rfl)
                                        · have hF := hF.2 c_132
                                          refine lv_iconst (v := 0) hx hb dL_law_724 (by decide) ?_
                                          exact absurd hF (by decide)
                                      · have hF := hF.2 c_127
                                        by_cases c_133 : ((xs x3_18.toNatClampNeg) &&& (63 : Int32)) = 17
                                        · have hF := hF.1 c_133
                                          refine lv_tableIn (off := 694) (tgt := 726) hx hb dL_law_32 (by rw [c_133]; decide) (by rw [c_133]; decide) (by rw [c_133]; rfl) (by decide) ?_
                                          refine lv_aload_n hx hb dL_law_726 rfl (lv_at hl 1 rfl) ?_
                                          refine lv_aload_n hx hb dL_law_727 rfl (lv_at hl 0 rfl) ?_
                                          refine lv_iload_n hx hb dL_law_728 rfl (lv_at hl 3 rfl) ?_
                                          refine lv_iconst (v := 1) hx hb dL_law_729 (by decide) ?_
                                          refine lv_iadd hx hb dL_law_730 ?_
                                          obtain ⟨hb_134, hF⟩ := hF
                                          refine va_sld hx hb hX hbl hbA hS hb_134 dL_law_731 ?_
                                          refine lv_aload_n hx hb dL_law_732 rfl (lv_at hl 0 rfl) ?_
                                          refine lv_iload_n hx hb dL_law_733 rfl (lv_at hl 3 rfl) ?_
                                          refine lv_iconst (v := 2) hx hb dL_law_734 (by decide) ?_
                                          refine lv_iadd hx hb dL_law_735 ?_
                                          obtain ⟨hb_135, hF⟩ := hF
                                          refine va_sld hx hb hX hbl hbA hS hb_135 dL_law_736 ?_
                                          refine lv_aload_n hx hb dL_law_737 rfl (lv_at hl 0 rfl) ?_
                                          refine lv_iload_n hx hb dL_law_738 rfl (lv_at hl 3 rfl) ?_
                                          refine lv_iconst (v := 3) hx hb dL_law_739 (by decide) ?_
                                          refine lv_iadd hx hb dL_law_740 ?_
                                          obtain ⟨hb_136, hF⟩ := hF
                                          refine va_sld hx hb hX hbl hbA hS hb_136 dL_law_741 ?_
                                          refine goL (rV (rest := []) S hK hP (ctX6_blind l D cI cJ ad had (xs (x3_18 + (1 : Int32)).toNatClampNeg) (xs (x3_18 + (2 : Int32)).toNatClampNeg) (xs (x3_18 + (3 : Int32)).toNatClampNeg) _ _ hF) (cwV 3 hts gL_law_X6_blind rfl rfl rfl hdV_X6_blind ⟨Nat.le_of_ble_eq_true rfl, Nat.le_of_ble_eq_true rfl⟩) e_R rfl rfl hl.1 rfl (Nat.le_of_ble_eq_true rfl) dL_law_742 ⟨Nat.le_of_ble_eq_true rfl, Nat.le_of_ble_eq_true rfl⟩) hS hFA (fun r_137 M_137 H locs hP hS hF => ?_)
                                          refine lv_aload_n hx hb dL_law_745 rfl (lv_at hl 2 rfl) ?_
                                          refine lv_aload_n hx hb dL_law_746 rfl (lv_at hl 0 rfl) ?_
                                          refine lv_iload_n hx hb dL_law_747 rfl (lv_at hl 3 rfl) ?_
                                          refine lv_iconst (v := 1) hx hb dL_law_748 (by decide) ?_
                                          refine lv_iadd hx hb dL_law_749 ?_
                                          obtain ⟨hb_138, hF⟩ := hF
                                          refine va_sld hx hb hX hbl hbA hS hb_138 dL_law_750 ?_
                                          refine lv_aload_n hx hb dL_law_751 rfl (lv_at hl 0 rfl) ?_
                                          refine lv_iload_n hx hb dL_law_752 rfl (lv_at hl 3 rfl) ?_
                                          refine lv_iconst (v := 2) hx hb dL_law_753 (by decide) ?_
                                          refine lv_iadd hx hb dL_law_754 ?_
                                          obtain ⟨hb_139, hF⟩ := hF
                                          refine va_sld hx hb hX hbl hbA hS hb_139 dL_law_755 ?_
                                          refine lv_aload_n hx hb dL_law_756 rfl (lv_at hl 0 rfl) ?_
                                          refine lv_iload_n hx hb dL_law_757 rfl (lv_at hl 3 rfl) ?_
                                          refine lv_iconst (v := 3) hx hb dL_law_758 (by decide) ?_
                                          refine lv_iadd hx hb dL_law_759 ?_
                                          obtain ⟨hb_140, hF⟩ := hF
                                          refine va_sld hx hb hX hbl hbA hS hb_140 dL_law_760 ?_
                                          refine goL (rV (rest := [.long r_137]) S hK hP (ctX7_blind l D cI cJ ad had (xs (x3_18 + (1 : Int32)).toNatClampNeg) (xs (x3_18 + (2 : Int32)).toNatClampNeg) (xs (x3_18 + (3 : Int32)).toNatClampNeg) _ _ hF) (cwV 3 hts gL_law_X7_blind rfl rfl rfl hdV_X7_blind ⟨Nat.le_of_ble_eq_true rfl, Nat.le_of_ble_eq_true rfl⟩) e_M rfl rfl hl.1 rfl (Nat.le_of_ble_eq_true rfl) dL_law_761 ⟨Nat.le_of_ble_eq_true rfl, Nat.le_of_ble_eq_true rfl⟩) hS hFA (fun r_141 M_141 H locs hP hS hF => ?_)
                                          refine W.lcmp hx hb dL_law_764 ?_
                                          refine lv_if_eq (tgt := 1212) hx hb dL_law_765 (by decide) (fun c_142 => ?_) (fun c_142 => ?_)
                                          · have hF := hF.1 (lc_eq.mp c_142)
                                            refine lv_iinc (v := (x3_18 + 5)) (lv' := [(3, .int (x3_18 + 5)), (0, .ref b), (1, .ref (ad 0)), (2, .ref (ad 32))]) hx hb dL_law_1212 hl (k := 3) rfl rfl (by decide) rfl (fun ls hl => ?_)
                                            refine lv_goto (tgt := 18) hx hb dL_law_1215 (by decide) ?_
                                            exact hJ_18 _ _ hF _ _ _ hP hS (lv_sub hl [1, 2, 3, 0] rfl)
                                          · have hF := hF.2 (fun q => c_142 (lc_eq.mpr q))
                                            refine lv_iconst (v := 0) hx hb dL_law_768 (by decide) ?_
                                            exact absurd hF (by decide)
                                        · have hF := hF.2 c_133
                                          by_cases c_143 : ((xs x3_18.toNatClampNeg) &&& (63 : Int32)) = 18
                                          · have hF := hF.1 c_143
                                            refine lv_tableIn (off := 738) (tgt := 770) hx hb dL_law_32 (by rw [c_143]; decide) (by rw [c_143]; decide) (by rw [c_143]; rfl) (by decide) ?_
                                            refine lv_aload_n hx hb dL_law_770 rfl (lv_at hl 1 rfl) ?_
                                            refine goI (rV (rest := []) S hK hP (ctX6_rest l D cI cJ ad had  _ _ hF) (cwV 0 hts gL_law_X6_rest rfl rfl rfl hdV_X6_rest ⟨Nat.le_of_ble_eq_true rfl, Nat.le_of_ble_eq_true rfl⟩) e_R rfl rfl hl.1 rfl (Nat.le_of_ble_eq_true rfl) dL_law_771 ⟨Nat.le_of_ble_eq_true rfl, Nat.le_of_ble_eq_true rfl⟩) hS hFA (fun r_144 M_144 H locs hP hS hF => ?_)
                                            refine lv_aload_n hx hb dL_law_774 rfl (lv_at hl 2 rfl) ?_
                                            refine goI (rV (rest := [.int r_144]) S hK hP (ctX7_rest l D cI cJ ad had  _ _ hF) (cwV 0 hts gL_law_X7_rest rfl rfl rfl hdV_X7_rest ⟨Nat.le_of_ble_eq_true rfl, Nat.le_of_ble_eq_true rfl⟩) e_M rfl rfl hl.1 rfl (Nat.le_of_ble_eq_true rfl) dL_law_775 ⟨Nat.le_of_ble_eq_true rfl, Nat.le_of_ble_eq_true rfl⟩) hS hFA (fun r_145 M_145 H locs hP hS hF => ?_)
                                            refine lv_icmp_eq (tgt := 1212) hx hb dL_law_778 (by decide) (fun c_146 => ?_) (fun c_146 => ?_)
                                            · have hF := hF.1 c_146
                                              refine lv_iinc (v := (x3_18 + 5)) (lv' := [(3, .int (x3_18 + 5)), (0, .ref b), (1, .ref (ad 0)), (2, .ref (ad 32))]) hx hb dL_law_1212 hl (k := 3) rfl rfl (by decide) rfl (fun ls hl => ?_)
                                              refine lv_goto (tgt := 18) hx hb dL_law_1215 (by decide) ?_
                                              exact hJ_18 _ _ hF _ _ _ hP hS (lv_sub hl [1, 2, 3, 0] rfl)
                                            · have hF := hF.2 c_146
                                              refine lv_iconst (v := 0) hx hb dL_law_781 (by decide) ?_
                                              exact absurd hF (by decide)
                                          · have hF := hF.2 c_143
                                            by_cases c_147 : ((xs x3_18.toNatClampNeg) &&& (63 : Int32)) = 19
                                            · have hF := hF.1 c_147
                                              refine lv_tableIn (off := 751) (tgt := 783) hx hb dL_law_32 (by rw [c_147]; decide) (by rw [c_147]; decide) (by rw [c_147]; rfl) (by decide) ?_
                                              refine lv_aload_n hx hb dL_law_783 rfl (lv_at hl 1 rfl) ?_
                                              refine lv_aload_n hx hb dL_law_784 rfl (lv_at hl 0 rfl) ?_
                                              refine lv_iload_n hx hb dL_law_785 rfl (lv_at hl 3 rfl) ?_
                                              refine lv_iconst (v := 1) hx hb dL_law_786 (by decide) ?_
                                              refine lv_iadd hx hb dL_law_787 ?_
                                              obtain ⟨hb_148, hF⟩ := hF
                                              refine va_sld hx hb hX hbl hbA hS hb_148 dL_law_788 ?_
                                              refine goI (rV (rest := []) S hK hP (ctX6_order l D cI cJ ad had (xs (x3_18 + (1 : Int32)).toNatClampNeg) _ _ hF) (cwV 1 hts gL_law_X6_order rfl rfl rfl hdV_X6_order ⟨Nat.le_of_ble_eq_true rfl, Nat.le_of_ble_eq_true rfl⟩) e_R rfl rfl hl.1 rfl (Nat.le_of_ble_eq_true rfl) dL_law_789 ⟨Nat.le_of_ble_eq_true rfl, Nat.le_of_ble_eq_true rfl⟩) hS hFA (fun r_149 M_149 H locs hP hS hF => ?_)
                                              refine lv_aload_n hx hb dL_law_792 rfl (lv_at hl 2 rfl) ?_
                                              refine lv_aload_n hx hb dL_law_793 rfl (lv_at hl 0 rfl) ?_
                                              refine lv_iload_n hx hb dL_law_794 rfl (lv_at hl 3 rfl) ?_
                                              refine lv_iconst (v := 1) hx hb dL_law_795 (by decide) ?_
                                              refine lv_iadd hx hb dL_law_796 ?_
                                              obtain ⟨hb_150, hF⟩ := hF
                                              refine va_sld hx hb hX hbl hbA hS hb_150 dL_law_797 ?_
                                              refine goI (rV (rest := [.int r_149]) S hK hP (ctX7_order l D cI cJ ad had (xs (x3_18 + (1 : Int32)).toNatClampNeg) _ _ hF) (cwV 1 hts gL_law_X7_order rfl rfl rfl hdV_X7_order ⟨Nat.le_of_ble_eq_true rfl, Nat.le_of_ble_eq_true rfl⟩) e_M rfl rfl hl.1 rfl (Nat.le_of_ble_eq_true rfl) dL_law_798 ⟨Nat.le_of_ble_eq_true rfl, Nat.le_of_ble_eq_true rfl⟩) hS hFA (fun r_151 M_151 H locs hP hS hF => ?_)
                                              refine lv_icmp_eq (tgt := 1212) hx hb dL_law_801 (by decide) (fun c_152 => ?_) (fun c_152 => ?_)
                                              · have hF := hF.1 c_152
                                                refine lv_iinc (v := (x3_18 + 5)) (lv' := [(3, .int (x3_18 + 5)), (0, .ref b), (1, .ref (ad 0)), (2, .ref (ad 32))]) hx hb dL_law_1212 hl (k := 3) rfl rfl (by decide) rfl (fun ls hl => ?_)
                                                refine lv_goto (tgt := 18) hx hb dL_law_1215 (by decide) ?_
                                                exact hJ_18 _ _ hF _ _ _ hP hS (lv_sub hl [1, 2, 3, 0] rfl)
                                              · have hF := hF.2 c_152
                                                refine lv_iconst (v := 0) hx hb dL_law_804 (by decide) ?_
                                                exact absurd hF (by decide)
                                            · have hF := hF.2 c_147
                                              by_cases c_153 : ((xs x3_18.toNatClampNeg) &&& (63 : Int32)) = 20
                                              · have hF := hF.1 c_153
                                                refine lv_tableIn (off := 774) (tgt := 806) hx hb dL_law_32 (by rw [c_153]; decide) (by rw [c_153]; decide) (by rw [c_153]; rfl) (by decide) ?_
                                                refine lv_aload_n hx hb dL_law_806 rfl (lv_at hl 1 rfl) ?_
                                                refine lv_aload_n hx hb dL_law_807 rfl (lv_at hl 0 rfl) ?_
                                                refine lv_iload_n hx hb dL_law_808 rfl (lv_at hl 3 rfl) ?_
                                                refine lv_iconst (v := 1) hx hb dL_law_809 (by decide) ?_
                                                refine lv_iadd hx hb dL_law_810 ?_
                                                obtain ⟨hb_154, hF⟩ := hF
                                                refine va_sld hx hb hX hbl hbA hS hb_154 dL_law_811 ?_
                                                refine lv_aload_n hx hb dL_law_812 rfl (lv_at hl 0 rfl) ?_
                                                refine lv_iload_n hx hb dL_law_813 rfl (lv_at hl 3 rfl) ?_
                                                refine lv_iconst (v := 2) hx hb dL_law_814 (by decide) ?_
                                                refine lv_iadd hx hb dL_law_815 ?_
                                                obtain ⟨hb_155, hF⟩ := hF
                                                refine va_sld hx hb hX hbl hbA hS hb_155 dL_law_816 ?_
                                                refine goI (rV (rest := []) S hK hP (ctX6_minute l D cI cJ ad had (xs (x3_18 + (1 : Int32)).toNatClampNeg) (xs (x3_18 + (2 : Int32)).toNatClampNeg) _ _ hF) (cwV 2 hts gL_law_X6_minute rfl rfl rfl hdV_X6_minute ⟨Nat.le_of_ble_eq_true rfl, Nat.le_of_ble_eq_true rfl⟩) e_R rfl rfl hl.1 rfl (Nat.le_of_ble_eq_true rfl) dL_law_817 ⟨Nat.le_of_ble_eq_true rfl, Nat.le_of_ble_eq_true rfl⟩) hS hFA (fun r_156 M_156 H locs hP hS hF => ?_)
                                                refine lv_aload_n hx hb dL_law_820 rfl (lv_at hl 2 rfl) ?_
                                                refine lv_aload_n hx hb dL_law_821 rfl (lv_at hl 0 rfl) ?_
                                                refine lv_iload_n hx hb dL_law_822 rfl (lv_at hl 3 rfl) ?_
                                                refine lv_iconst (v := 1) hx hb dL_law_823 (by decide) ?_
                                                refine lv_iadd hx hb dL_law_824 ?_
                                                obtain ⟨hb_157, hF⟩ := hF
                                                refine va_sld hx hb hX hbl hbA hS hb_157 dL_law_825 ?_
                                                refine lv_aload_n hx hb dL_law_826 rfl (lv_at hl 0 rfl) ?_
                                                refine lv_iload_n hx hb dL_law_827 rfl (lv_at hl 3 rfl) ?_
                                                refine lv_iconst (v := 2) hx hb dL_law_828 (by decide) ?_
                                                refine lv_iadd hx hb dL_law_829 ?_
                                                obtain ⟨hb_158, hF⟩ := hF
                                                refine va_sld hx hb hX hbl hbA hS hb_158 dL_law_830 ?_
                                                refine goI (rV (rest := [.int r_156]) S hK hP (ctX7_minute l D cI cJ ad had (xs (x3_18 + (1 : Int32)).toNatClampNeg) (xs (x3_18 + (2 : Int32)).toNatClampNeg) _ _ hF) (cwV 2 hts gL_law_X7_minute rfl rfl rfl hdV_X7_minute ⟨Nat.le_of_ble_eq_true rfl, Nat.le_of_ble_eq_true rfl⟩) e_M rfl rfl hl.1 rfl (Nat.le_of_ble_eq_true rfl) dL_law_831 ⟨Nat.le_of_ble_eq_true rfl, Nat.le_of_ble_eq_true rfl⟩) hS hFA (fun r_159 M_159 H locs hP hS hF => ?_)
                                                refine lv_icmp_eq (tgt := 1212) hx hb dL_law_834 (by decide) (fun c_160 => ?_) (fun c_160 => ?_)
                                                · have hF := hF.1 c_160
                                                  refine lv_iinc (v := (x3_18 + 5)) (lv' := [(3, .int (x3_18 + 5)), (0, .ref b), (1, .ref (ad 0)), (2, .ref (ad 32))]) hx hb dL_law_1212 hl (k := 3) rfl rfl (by decide) rfl (fun ls hl => ?_)
                                                  refine lv_goto (tgt := 18) hx hb dL_law_1215 (by decide) ?_
                                                  exact hJ_18 _ _ hF _ _ _ hP hS (lv_sub hl [1, 2, 3, 0] rfl)
                                                · have hF := hF.2 c_160
                                                  refine lv_iconst (v := 0) hx hb dL_law_837 (by decide) ?_
                                                  exact absurd hF (by decide)
                                              · have hF := hF.2 c_153
                                                by_cases c_161 : ((xs x3_18.toNatClampNeg) &&& (63 : Int32)) = 21
                                                · have hF := hF.1 c_161
                                                  refine lv_tableIn (off := 807) (tgt := 839) hx hb dL_law_32 (by rw [c_161]; decide) (by rw [c_161]; decide) (by rw [c_161]; rfl) (by decide) ?_
                                                  refine lv_aload_n hx hb dL_law_839 rfl (lv_at hl 1 rfl) ?_
                                                  refine lv_aload_n hx hb dL_law_840 rfl (lv_at hl 0 rfl) ?_
                                                  refine lv_iload_n hx hb dL_law_841 rfl (lv_at hl 3 rfl) ?_
                                                  refine lv_iconst (v := 1) hx hb dL_law_842 (by decide) ?_
                                                  refine lv_iadd hx hb dL_law_843 ?_
                                                  obtain ⟨hb_162, hF⟩ := hF
                                                  refine va_sld hx hb hX hbl hbA hS hb_162 dL_law_844 ?_
                                                  refine lv_aload_n hx hb dL_law_845 rfl (lv_at hl 0 rfl) ?_
                                                  refine lv_iload_n hx hb dL_law_846 rfl (lv_at hl 3 rfl) ?_
                                                  refine lv_iconst (v := 2) hx hb dL_law_847 (by decide) ?_
                                                  refine lv_iadd hx hb dL_law_848 ?_
                                                  obtain ⟨hb_163, hF⟩ := hF
                                                  refine va_sld hx hb hX hbl hbA hS hb_163 dL_law_849 ?_
                                                  refine goI (rV (rest := []) S hK hP (ctX6_ofComer l D cI cJ ad had (xs (x3_18 + (1 : Int32)).toNatClampNeg) (xs (x3_18 + (2 : Int32)).toNatClampNeg) _ _ hF) (cwV 2 hts gL_law_X6_ofComer rfl rfl rfl hdV_X6_ofComer ⟨Nat.le_of_ble_eq_true rfl, Nat.le_of_ble_eq_true rfl⟩) e_R rfl rfl hl.1 rfl (Nat.le_of_ble_eq_true rfl) dL_law_850 ⟨Nat.le_of_ble_eq_true rfl, Nat.le_of_ble_eq_true rfl⟩) hS hFA (fun r_164 M_164 H locs hP hS hF => ?_)
                                                  refine lv_aload_n hx hb dL_law_853 rfl (lv_at hl 2 rfl) ?_
                                                  refine lv_aload_n hx hb dL_law_854 rfl (lv_at hl 0 rfl) ?_
                                                  refine lv_iload_n hx hb dL_law_855 rfl (lv_at hl 3 rfl) ?_
                                                  refine lv_iconst (v := 1) hx hb dL_law_856 (by decide) ?_
                                                  refine lv_iadd hx hb dL_law_857 ?_
                                                  obtain ⟨hb_165, hF⟩ := hF
                                                  refine va_sld hx hb hX hbl hbA hS hb_165 dL_law_858 ?_
                                                  refine lv_aload_n hx hb dL_law_859 rfl (lv_at hl 0 rfl) ?_
                                                  refine lv_iload_n hx hb dL_law_860 rfl (lv_at hl 3 rfl) ?_
                                                  refine lv_iconst (v := 2) hx hb dL_law_861 (by decide) ?_
                                                  refine lv_iadd hx hb dL_law_862 ?_
                                                  obtain ⟨hb_166, hF⟩ := hF
                                                  refine va_sld hx hb hX hbl hbA hS hb_166 dL_law_863 ?_
                                                  refine goI (rV (rest := [.int r_164]) S hK hP (ctX7_ofComer l D cI cJ ad had (xs (x3_18 + (1 : Int32)).toNatClampNeg) (xs (x3_18 + (2 : Int32)).toNatClampNeg) _ _ hF) (cwV 2 hts gL_law_X7_ofComer rfl rfl rfl hdV_X7_ofComer ⟨Nat.le_of_ble_eq_true rfl, Nat.le_of_ble_eq_true rfl⟩) e_M rfl rfl hl.1 rfl (Nat.le_of_ble_eq_true rfl) dL_law_864 ⟨Nat.le_of_ble_eq_true rfl, Nat.le_of_ble_eq_true rfl⟩) hS hFA (fun r_167 M_167 H locs hP hS hF => ?_)
                                                  refine lv_icmp_eq (tgt := 1212) hx hb dL_law_867 (by decide) (fun c_168 => ?_) (fun c_168 => ?_)
                                                  · have hF := hF.1 c_168
                                                    refine lv_iinc (v := (x3_18 + 5)) (lv' := [(3, .int (x3_18 + 5)), (0, .ref b), (1, .ref (ad 0)), (2, .ref (ad 32))]) hx hb dL_law_1212 hl (k := 3) rfl rfl (by decide) rfl (fun ls hl => ?_)
                                                    refine lv_goto (tgt := 18) hx hb dL_law_1215 (by decide) ?_
                                                    exact hJ_18 _ _ hF _ _ _ hP hS (lv_sub hl [1, 2, 3, 0] rfl)
                                                  · have hF := hF.2 c_168
                                                    refine lv_iconst (v := 0) hx hb dL_law_870 (by decide) ?_
                                                    exact absurd hF (by decide)
                                                · have hF := hF.2 c_161
                                                  by_cases c_169 : ((xs x3_18.toNatClampNeg) &&& (63 : Int32)) = 22
                                                  · have hF := hF.1 c_169
                                                    refine lv_tableIn (off := 840) (tgt := 872) hx hb dL_law_32 (by rw [c_169]; decide) (by rw [c_169]; decide) (by rw [c_169]; rfl) (by decide) ?_
                                                    refine lv_aload_n hx hb dL_law_872 rfl (lv_at hl 1 rfl) ?_
                                                    refine lv_aload_n hx hb dL_law_873 rfl (lv_at hl 0 rfl) ?_
                                                    refine lv_iload_n hx hb dL_law_874 rfl (lv_at hl 3 rfl) ?_
                                                    refine lv_iconst (v := 1) hx hb dL_law_875 (by decide) ?_
                                                    refine lv_iadd hx hb dL_law_876 ?_
                                                    obtain ⟨hb_170, hF⟩ := hF
                                                    refine va_sld hx hb hX hbl hbA hS hb_170 dL_law_877 ?_
                                                    refine goI (rV (rest := []) S hK hP (ctX6_leave l D cI cJ ad had (xs (x3_18 + (1 : Int32)).toNatClampNeg) _ _ hF) (cwV 1 hts gL_law_X6_leave rfl rfl rfl hdV_X6_leave ⟨Nat.le_of_ble_eq_true rfl, Nat.le_of_ble_eq_true rfl⟩) e_R rfl rfl hl.1 rfl (Nat.le_of_ble_eq_true rfl) dL_law_878 ⟨Nat.le_of_ble_eq_true rfl, Nat.le_of_ble_eq_true rfl⟩) hS hFA (fun r_171 M_171 H locs hP hS hF => ?_)
                                                    refine lv_aload_n hx hb dL_law_881 rfl (lv_at hl 2 rfl) ?_
                                                    refine lv_aload_n hx hb dL_law_882 rfl (lv_at hl 0 rfl) ?_
                                                    refine lv_iload_n hx hb dL_law_883 rfl (lv_at hl 3 rfl) ?_
                                                    refine lv_iconst (v := 1) hx hb dL_law_884 (by decide) ?_
                                                    refine lv_iadd hx hb dL_law_885 ?_
                                                    obtain ⟨hb_172, hF⟩ := hF
                                                    refine va_sld hx hb hX hbl hbA hS hb_172 dL_law_886 ?_
                                                    refine goI (rV (rest := [.int r_171]) S hK hP (ctX7_leave l D cI cJ ad had (xs (x3_18 + (1 : Int32)).toNatClampNeg) _ _ hF) (cwV 1 hts gL_law_X7_leave rfl rfl rfl hdV_X7_leave ⟨Nat.le_of_ble_eq_true rfl, Nat.le_of_ble_eq_true rfl⟩) e_M rfl rfl hl.1 rfl (Nat.le_of_ble_eq_true rfl) dL_law_887 ⟨Nat.le_of_ble_eq_true rfl, Nat.le_of_ble_eq_true rfl⟩) hS hFA (fun r_173 M_173 H locs hP hS hF => ?_)
                                                    refine lv_icmp_eq (tgt := 1212) hx hb dL_law_890 (by decide) (fun c_174 => ?_) (fun c_174 => ?_)
                                                    · have hF := hF.1 c_174
                                                      refine lv_iinc (v := (x3_18 + 5)) (lv' := [(3, .int (x3_18 + 5)), (0, .ref b), (1, .ref (ad 0)), (2, .ref (ad 32))]) hx hb dL_law_1212 hl (k := 3) rfl rfl (by decide) rfl (fun ls hl => ?_)
                                                      refine lv_goto (tgt := 18) hx hb dL_law_1215 (by decide) ?_
                                                      exact hJ_18 _ _ hF _ _ _ hP hS (lv_sub hl [1, 2, 3, 0] rfl)
                                                    · have hF := hF.2 c_174
                                                      refine lv_iconst (v := 0) hx hb dL_law_893 (by decide) ?_
                                                      exact absurd hF (by decide)
                                                  · have hF := hF.2 c_169
                                                    by_cases c_175 : ((xs x3_18.toNatClampNeg) &&& (63 : Int32)) = 23
                                                    · have hF := hF.1 c_175
                                                      refine lv_tableIn (off := 863) (tgt := 895) hx hb dL_law_32 (by rw [c_175]; decide) (by rw [c_175]; decide) (by rw [c_175]; rfl) (by decide) ?_
                                                      refine lv_aload_n hx hb dL_law_895 rfl (lv_at hl 1 rfl) ?_
                                                      refine lv_aload_n hx hb dL_law_896 rfl (lv_at hl 0 rfl) ?_
                                                      refine lv_iload_n hx hb dL_law_897 rfl (lv_at hl 3 rfl) ?_
                                                      refine lv_iconst (v := 1) hx hb dL_law_898 (by decide) ?_
                                                      refine lv_iadd hx hb dL_law_899 ?_
                                                      obtain ⟨hb_176, hF⟩ := hF
                                                      refine va_sld hx hb hX hbl hbA hS hb_176 dL_law_900 ?_
                                                      refine goI (rV (rest := []) S hK hP (ctX6_line l D cI cJ ad had (xs (x3_18 + (1 : Int32)).toNatClampNeg) _ _ hF) (cwV 1 hts gL_law_X6_line rfl rfl rfl hdV_X6_line ⟨Nat.le_of_ble_eq_true rfl, Nat.le_of_ble_eq_true rfl⟩) e_R rfl rfl hl.1 rfl (Nat.le_of_ble_eq_true rfl) dL_law_901 ⟨Nat.le_of_ble_eq_true rfl, Nat.le_of_ble_eq_true rfl⟩) hS hFA (fun r_177 M_177 H locs hP hS hF => ?_)
                                                      refine lv_aload_n hx hb dL_law_904 rfl (lv_at hl 2 rfl) ?_
                                                      refine lv_aload_n hx hb dL_law_905 rfl (lv_at hl 0 rfl) ?_
                                                      refine lv_iload_n hx hb dL_law_906 rfl (lv_at hl 3 rfl) ?_
                                                      refine lv_iconst (v := 1) hx hb dL_law_907 (by decide) ?_
                                                      refine lv_iadd hx hb dL_law_908 ?_
                                                      obtain ⟨hb_178, hF⟩ := hF
                                                      refine va_sld hx hb hX hbl hbA hS hb_178 dL_law_909 ?_
                                                      refine goI (rV (rest := [.int r_177]) S hK hP (ctX7_line l D cI cJ ad had (xs (x3_18 + (1 : Int32)).toNatClampNeg) _ _ hF) (cwV 1 hts gL_law_X7_line rfl rfl rfl hdV_X7_line ⟨Nat.le_of_ble_eq_true rfl, Nat.le_of_ble_eq_true rfl⟩) e_M rfl rfl hl.1 rfl (Nat.le_of_ble_eq_true rfl) dL_law_910 ⟨Nat.le_of_ble_eq_true rfl, Nat.le_of_ble_eq_true rfl⟩) hS hFA (fun r_179 M_179 H locs hP hS hF => ?_)
                                                      refine lv_icmp_eq (tgt := 1212) hx hb dL_law_913 (by decide) (fun c_180 => ?_) (fun c_180 => ?_)
                                                      · have hF := hF.1 c_180
                                                        refine lv_iinc (v := (x3_18 + 5)) (lv' := [(3, .int (x3_18 + 5)), (0, .ref b), (1, .ref (ad 0)), (2, .ref (ad 32))]) hx hb dL_law_1212 hl (k := 3) rfl rfl (by decide) rfl (fun ls hl => ?_)
                                                        refine lv_goto (tgt := 18) hx hb dL_law_1215 (by decide) ?_
                                                        exact hJ_18 _ _ hF _ _ _ hP hS (lv_sub hl [1, 2, 3, 0] rfl)
                                                      · have hF := hF.2 c_180
                                                        refine lv_iconst (v := 0) hx hb dL_law_916 (by decide) ?_
                                                        exact absurd hF (by decide)
                                                    · have hF := hF.2 c_175
                                                      by_cases c_181 : ((xs x3_18.toNatClampNeg) &&& (63 : Int32)) = 24
                                                      · have hF := hF.1 c_181
                                                        refine lv_tableIn (off := 886) (tgt := 918) hx hb dL_law_32 (by rw [c_181]; decide) (by rw [c_181]; decide) (by rw [c_181]; rfl) (by decide) ?_
                                                        refine lv_aload_n hx hb dL_law_918 rfl (lv_at hl 1 rfl) ?_
                                                        refine goI (rV (rest := []) S hK hP (ctX6_envy l D cI cJ ad had  _ _ hF) (cwV 0 hts gL_law_X6_envy rfl rfl rfl hdV_X6_envy ⟨Nat.le_of_ble_eq_true rfl, Nat.le_of_ble_eq_true rfl⟩) e_R rfl rfl hl.1 rfl (Nat.le_of_ble_eq_true rfl) dL_law_919 ⟨Nat.le_of_ble_eq_true rfl, Nat.le_of_ble_eq_true rfl⟩) hS hFA (fun r_182 M_182 H locs hP hS hF => ?_)
                                                        refine lv_aload_n hx hb dL_law_922 rfl (lv_at hl 2 rfl) ?_
                                                        refine goI (rV (rest := [.int r_182]) S hK hP (ctX7_envy l D cI cJ ad had  _ _ hF) (cwV 0 hts gL_law_X7_envy rfl rfl rfl hdV_X7_envy ⟨Nat.le_of_ble_eq_true rfl, Nat.le_of_ble_eq_true rfl⟩) e_M rfl rfl hl.1 rfl (Nat.le_of_ble_eq_true rfl) dL_law_923 ⟨Nat.le_of_ble_eq_true rfl, Nat.le_of_ble_eq_true rfl⟩) hS hFA (fun r_183 M_183 H locs hP hS hF => ?_)
                                                        refine lv_icmp_eq (tgt := 1212) hx hb dL_law_926 (by decide) (fun c_184 => ?_) (fun c_184 => ?_)
                                                        · have hF := hF.1 c_184
                                                          refine lv_iinc (v := (x3_18 + 5)) (lv' := [(3, .int (x3_18 + 5)), (0, .ref b), (1, .ref (ad 0)), (2, .ref (ad 32))]) hx hb dL_law_1212 hl (k := 3) rfl rfl (by decide) rfl (fun ls hl => ?_)
                                                          refine lv_goto (tgt := 18) hx hb dL_law_1215 (by decide) ?_
                                                          exact hJ_18 _ _ hF _ _ _ hP hS (lv_sub hl [1, 2, 3, 0] rfl)
                                                        · have hF := hF.2 c_184
                                                          refine lv_iconst (v := 0) hx hb dL_law_929 (by decide) ?_
                                                          exact absurd hF (by decide)
                                                      · have hF := hF.2 c_181
                                                        by_cases c_185 : ((xs x3_18.toNatClampNeg) &&& (63 : Int32)) = 25
                                                        · have hF := hF.1 c_185
                                                          refine lv_tableIn (off := 899) (tgt := 931) hx hb dL_law_32 (by rw [c_185]; decide) (by rw [c_185]; decide) (by rw [c_185]; rfl) (by decide) ?_
                                                          refine lv_aload_n hx hb dL_law_931 rfl (lv_at hl 1 rfl) ?_
                                                          refine lv_aload_n hx hb dL_law_932 rfl (lv_at hl 0 rfl) ?_
                                                          refine lv_iload_n hx hb dL_law_933 rfl (lv_at hl 3 rfl) ?_
                                                          refine lv_iconst (v := 1) hx hb dL_law_934 (by decide) ?_
                                                          refine lv_iadd hx hb dL_law_935 ?_
                                                          obtain ⟨hb_186, hF⟩ := hF
                                                          refine va_sld hx hb hX hbl hbA hS hb_186 dL_law_936 ?_
                                                          refine lv_aload_n hx hb dL_law_937 rfl (lv_at hl 0 rfl) ?_
                                                          refine lv_iload_n hx hb dL_law_938 rfl (lv_at hl 3 rfl) ?_
                                                          refine lv_iconst (v := 2) hx hb dL_law_939 (by decide) ?_
                                                          refine lv_iadd hx hb dL_law_940 ?_
                                                          obtain ⟨hb_187, hF⟩ := hF
                                                          refine va_sld hx hb hX hbl hbA hS hb_187 dL_law_941 ?_
                                                          refine lv_aload_n hx hb dL_law_942 rfl (lv_at hl 0 rfl) ?_
                                                          refine lv_iload_n hx hb dL_law_943 rfl (lv_at hl 3 rfl) ?_
                                                          refine lv_iconst (v := 3) hx hb dL_law_944 (by decide) ?_
                                                          refine lv_iadd hx hb dL_law_945 ?_
                                                          obtain ⟨hb_188, hF⟩ := hF
                                                          refine va_sld hx hb hX hbl hbA hS hb_188 dL_law_946 ?_
                                                          refine goI (rV (rest := []) S hK hP (ctX6_sheet l D cI cJ ad had (xs (x3_18 + (1 : Int32)).toNatClampNeg) (xs (x3_18 + (2 : Int32)).toNatClampNeg) (xs (x3_18 + (3 : Int32)).toNatClampNeg) _ _ hF) (cwV 3 hts gL_law_X6_sheet rfl rfl rfl hdV_X6_sheet ⟨Nat.le_of_ble_eq_true rfl, Nat.le_of_ble_eq_true rfl⟩) e_R rfl rfl hl.1 rfl (Nat.le_of_ble_eq_true rfl) dL_law_947 ⟨Nat.le_of_ble_eq_true rfl, Nat.le_of_ble_eq_true rfl⟩) hS hFA (fun r_189 M_189 H locs hP hS hF => ?_)
                                                          refine lv_aload_n hx hb dL_law_950 rfl (lv_at hl 2 rfl) ?_
                                                          refine lv_aload_n hx hb dL_law_951 rfl (lv_at hl 0 rfl) ?_
                                                          refine lv_iload_n hx hb dL_law_952 rfl (lv_at hl 3 rfl) ?_
                                                          refine lv_iconst (v := 1) hx hb dL_law_953 (by decide) ?_
                                                          refine lv_iadd hx hb dL_law_954 ?_
                                                          obtain ⟨hb_190, hF⟩ := hF
                                                          refine va_sld hx hb hX hbl hbA hS hb_190 dL_law_955 ?_
                                                          refine lv_aload_n hx hb dL_law_956 rfl (lv_at hl 0 rfl) ?_
                                                          refine lv_iload_n hx hb dL_law_957 rfl (lv_at hl 3 rfl) ?_
                                                          refine lv_iconst (v := 2) hx hb dL_law_958 (by decide) ?_
                                                          refine lv_iadd hx hb dL_law_959 ?_
                                                          obtain ⟨hb_191, hF⟩ := hF
                                                          refine va_sld hx hb hX hbl hbA hS hb_191 dL_law_960 ?_
                                                          refine lv_aload_n hx hb dL_law_961 rfl (lv_at hl 0 rfl) ?_
                                                          refine lv_iload_n hx hb dL_law_962 rfl (lv_at hl 3 rfl) ?_
                                                          refine lv_iconst (v := 3) hx hb dL_law_963 (by decide) ?_
                                                          refine lv_iadd hx hb dL_law_964 ?_
                                                          obtain ⟨hb_192, hF⟩ := hF
                                                          refine va_sld hx hb hX hbl hbA hS hb_192 dL_law_965 ?_
                                                          refine goI (rV (rest := [.int r_189]) S hK hP (ctX7_sheet l D cI cJ ad had (xs (x3_18 + (1 : Int32)).toNatClampNeg) (xs (x3_18 + (2 : Int32)).toNatClampNeg) (xs (x3_18 + (3 : Int32)).toNatClampNeg) _ _ hF) (cwV 3 hts gL_law_X7_sheet rfl rfl rfl hdV_X7_sheet ⟨Nat.le_of_ble_eq_true rfl, Nat.le_of_ble_eq_true rfl⟩) e_M rfl rfl hl.1 rfl (Nat.le_of_ble_eq_true rfl) dL_law_966 ⟨Nat.le_of_ble_eq_true rfl, Nat.le_of_ble_eq_true rfl⟩) hS hFA (fun r_193 M_193 H locs hP hS hF => ?_)
                                                          refine lv_icmp_eq (tgt := 1212) hx hb dL_law_969 (by decide) (fun c_194 => ?_) (fun c_194 => ?_)
                                                          · have hF := hF.1 c_194
                                                            refine lv_iinc (v := (x3_18 + 5)) (lv' := [(3, .int (x3_18 + 5)), (0, .ref b), (1, .ref (ad 0)), (2, .ref (ad 32))]) hx hb dL_law_1212 hl (k := 3) rfl rfl (by decide) rfl (fun ls hl => ?_)
                                                            refine lv_goto (tgt := 18) hx hb dL_law_1215 (by decide) ?_
                                                            exact hJ_18 _ _ hF _ _ _ hP hS (lv_sub hl [1, 2, 3, 0] rfl)
                                                          · have hF := hF.2 c_194
                                                            refine lv_iconst (v := 0) hx hb dL_law_972 (by decide) ?_
                                                            exact absurd hF (by decide)
                                                        · have hF := hF.2 c_185
                                                          by_cases c_195 : ((xs x3_18.toNatClampNeg) &&& (63 : Int32)) = 26
                                                          · have hF := hF.1 c_195
                                                            refine lv_tableIn (off := 942) (tgt := 974) hx hb dL_law_32 (by rw [c_195]; decide) (by rw [c_195]; decide) (by rw [c_195]; rfl) (by decide) ?_
                                                            refine lv_aload_n hx hb dL_law_974 rfl (lv_at hl 1 rfl) ?_
                                                            refine lv_aload_n hx hb dL_law_975 rfl (lv_at hl 0 rfl) ?_
                                                            refine lv_iload_n hx hb dL_law_976 rfl (lv_at hl 3 rfl) ?_
                                                            refine lv_iconst (v := 1) hx hb dL_law_977 (by decide) ?_
                                                            refine lv_iadd hx hb dL_law_978 ?_
                                                            obtain ⟨hb_196, hF⟩ := hF
                                                            refine va_sld hx hb hX hbl hbA hS hb_196 dL_law_979 ?_
                                                            refine goI (rV (rest := []) S hK hP (ctX6_lose l D cI cJ ad had (xs (x3_18 + (1 : Int32)).toNatClampNeg) _ _ hF) (cwV 1 hts gL_law_X6_lose rfl rfl rfl hdV_X6_lose ⟨Nat.le_of_ble_eq_true rfl, Nat.le_of_ble_eq_true rfl⟩) e_R rfl rfl hl.1 rfl (Nat.le_of_ble_eq_true rfl) dL_law_980 ⟨Nat.le_of_ble_eq_true rfl, Nat.le_of_ble_eq_true rfl⟩) hS hFA (fun r_197 M_197 H locs hP hS hF => ?_)
                                                            refine lv_aload_n hx hb dL_law_983 rfl (lv_at hl 2 rfl) ?_
                                                            refine lv_aload_n hx hb dL_law_984 rfl (lv_at hl 0 rfl) ?_
                                                            refine lv_iload_n hx hb dL_law_985 rfl (lv_at hl 3 rfl) ?_
                                                            refine lv_iconst (v := 1) hx hb dL_law_986 (by decide) ?_
                                                            refine lv_iadd hx hb dL_law_987 ?_
                                                            obtain ⟨hb_198, hF⟩ := hF
                                                            refine va_sld hx hb hX hbl hbA hS hb_198 dL_law_988 ?_
                                                            refine goI (rV (rest := [.int r_197]) S hK hP (ctX7_lose l D cI cJ ad had (xs (x3_18 + (1 : Int32)).toNatClampNeg) _ _ hF) (cwV 1 hts gL_law_X7_lose rfl rfl rfl hdV_X7_lose ⟨Nat.le_of_ble_eq_true rfl, Nat.le_of_ble_eq_true rfl⟩) e_M rfl rfl hl.1 rfl (Nat.le_of_ble_eq_true rfl) dL_law_989 ⟨Nat.le_of_ble_eq_true rfl, Nat.le_of_ble_eq_true rfl⟩) hS hFA (fun r_199 M_199 H locs hP hS hF => ?_)
                                                            refine lv_icmp_eq (tgt := 1212) hx hb dL_law_992 (by decide) (fun c_200 => ?_) (fun c_200 => ?_)
                                                            · have hF := hF.1 c_200
                                                              refine lv_iinc (v := (x3_18 + 5)) (lv' := [(3, .int (x3_18 + 5)), (0, .ref b), (1, .ref (ad 0)), (2, .ref (ad 32))]) hx hb dL_law_1212 hl (k := 3) rfl rfl (by decide) rfl (fun ls hl => ?_)
                                                              refine lv_goto (tgt := 18) hx hb dL_law_1215 (by decide) ?_
                                                              exact hJ_18 _ _ hF _ _ _ hP hS (lv_sub hl [1, 2, 3, 0] rfl)
                                                            · have hF := hF.2 c_200
                                                              refine lv_iconst (v := 0) hx hb dL_law_995 (by decide) ?_
                                                              exact absurd hF (by decide)
                                                          · have hF := hF.2 c_195
                                                            by_cases c_201 : ((xs x3_18.toNatClampNeg) &&& (63 : Int32)) = 27
                                                            · have hF := hF.1 c_201
                                                              refine lv_tableIn (off := 965) (tgt := 997) hx hb dL_law_32 (by rw [c_201]; decide) (by rw [c_201]; decide) (by rw [c_201]; rfl) (by decide) ?_
                                                              refine lv_aload_n hx hb dL_law_997 rfl (lv_at hl 1 rfl) ?_
                                                              refine lv_aload_n hx hb dL_law_998 rfl (lv_at hl 0 rfl) ?_
                                                              refine lv_iload_n hx hb dL_law_999 rfl (lv_at hl 3 rfl) ?_
                                                              refine lv_iconst (v := 1) hx hb dL_law_1000 (by decide) ?_
                                                              refine lv_iadd hx hb dL_law_1001 ?_
                                                              obtain ⟨hb_202, hF⟩ := hF
                                                              refine va_sld hx hb hX hbl hbA hS hb_202 dL_law_1002 ?_
                                                              refine lv_aload_n hx hb dL_law_1003 rfl (lv_at hl 0 rfl) ?_
                                                              refine lv_iload_n hx hb dL_law_1004 rfl (lv_at hl 3 rfl) ?_
                                                              refine lv_iconst (v := 2) hx hb dL_law_1005 (by decide) ?_
                                                              refine lv_iadd hx hb dL_law_1006 ?_
                                                              obtain ⟨hb_203, hF⟩ := hF
                                                              refine va_sld hx hb hX hbl hbA hS hb_203 dL_law_1007 ?_
                                                              refine lv_aload_n hx hb dL_law_1008 rfl (lv_at hl 0 rfl) ?_
                                                              refine lv_iload_n hx hb dL_law_1009 rfl (lv_at hl 3 rfl) ?_
                                                              refine lv_iconst (v := 3) hx hb dL_law_1010 (by decide) ?_
                                                              refine lv_iadd hx hb dL_law_1011 ?_
                                                              obtain ⟨hb_204, hF⟩ := hF
                                                              refine va_sld hx hb hX hbl hbA hS hb_204 dL_law_1012 ?_
                                                              refine goI (rV (rest := []) S hK hP (ctX6_put l D cI cJ ad had (xs (x3_18 + (1 : Int32)).toNatClampNeg) (xs (x3_18 + (2 : Int32)).toNatClampNeg) (xs (x3_18 + (3 : Int32)).toNatClampNeg) _ _ hF) (cwV 3 hts gL_law_X6_put rfl rfl rfl hdV_X6_put ⟨Nat.le_of_ble_eq_true rfl, Nat.le_of_ble_eq_true rfl⟩) e_R rfl rfl hl.1 rfl (Nat.le_of_ble_eq_true rfl) dL_law_1013 ⟨Nat.le_of_ble_eq_true rfl, Nat.le_of_ble_eq_true rfl⟩) hS hFA (fun r_205 M_205 H locs hP hS hF => ?_)
                                                              refine lv_aload_n hx hb dL_law_1016 rfl (lv_at hl 2 rfl) ?_
                                                              refine lv_aload_n hx hb dL_law_1017 rfl (lv_at hl 0 rfl) ?_
                                                              refine lv_iload_n hx hb dL_law_1018 rfl (lv_at hl 3 rfl) ?_
                                                              refine lv_iconst (v := 1) hx hb dL_law_1019 (by decide) ?_
                                                              refine lv_iadd hx hb dL_law_1020 ?_
                                                              obtain ⟨hb_206, hF⟩ := hF
                                                              refine va_sld hx hb hX hbl hbA hS hb_206 dL_law_1021 ?_
                                                              refine lv_aload_n hx hb dL_law_1022 rfl (lv_at hl 0 rfl) ?_
                                                              refine lv_iload_n hx hb dL_law_1023 rfl (lv_at hl 3 rfl) ?_
                                                              refine lv_iconst (v := 2) hx hb dL_law_1024 (by decide) ?_
                                                              refine lv_iadd hx hb dL_law_1025 ?_
                                                              obtain ⟨hb_207, hF⟩ := hF
                                                              refine va_sld hx hb hX hbl hbA hS hb_207 dL_law_1026 ?_
                                                              refine lv_aload_n hx hb dL_law_1027 rfl (lv_at hl 0 rfl) ?_
                                                              refine lv_iload_n hx hb dL_law_1028 rfl (lv_at hl 3 rfl) ?_
                                                              refine lv_iconst (v := 3) hx hb dL_law_1029 (by decide) ?_
                                                              refine lv_iadd hx hb dL_law_1030 ?_
                                                              obtain ⟨hb_208, hF⟩ := hF
                                                              refine va_sld hx hb hX hbl hbA hS hb_208 dL_law_1031 ?_
                                                              refine goI (rV (rest := [.int r_205]) S hK hP (ctX7_put l D cI cJ ad had (xs (x3_18 + (1 : Int32)).toNatClampNeg) (xs (x3_18 + (2 : Int32)).toNatClampNeg) (xs (x3_18 + (3 : Int32)).toNatClampNeg) _ _ hF) (cwV 3 hts gL_law_X7_put rfl rfl rfl hdV_X7_put ⟨Nat.le_of_ble_eq_true rfl, Nat.le_of_ble_eq_true rfl⟩) e_M rfl rfl hl.1 rfl (Nat.le_of_ble_eq_true rfl) dL_law_1032 ⟨Nat.le_of_ble_eq_true rfl, Nat.le_of_ble_eq_true rfl⟩) hS hFA (fun r_209 M_209 H locs hP hS hF => ?_)
                                                              refine lv_icmp_eq (tgt := 1212) hx hb dL_law_1035 (by decide) (fun c_210 => ?_) (fun c_210 => ?_)
                                                              · have hF := hF.1 c_210
                                                                refine lv_iinc (v := (x3_18 + 5)) (lv' := [(3, .int (x3_18 + 5)), (0, .ref b), (1, .ref (ad 0)), (2, .ref (ad 32))]) hx hb dL_law_1212 hl (k := 3) rfl rfl (by decide) rfl (fun ls hl => ?_)
                                                                refine lv_goto (tgt := 18) hx hb dL_law_1215 (by decide) ?_
                                                                exact hJ_18 _ _ hF _ _ _ hP hS (lv_sub hl [1, 2, 3, 0] rfl)
                                                              · have hF := hF.2 c_210
                                                                refine lv_iconst (v := 0) hx hb dL_law_1038 (by decide) ?_
                                                                exact absurd hF (by decide)
                                                            · have hF := hF.2 c_201
                                                              by_cases c_211 : ((xs x3_18.toNatClampNeg) &&& (63 : Int32)) = 28
                                                              · have hF := hF.1 c_211
                                                                refine lv_tableIn (off := 1008) (tgt := 1040) hx hb dL_law_32 (by rw [c_211]; decide) (by rw [c_211]; decide) (by rw [c_211]; rfl) (by decide) ?_
                                                                refine lv_aload_n hx hb dL_law_1040 rfl (lv_at hl 1 rfl) ?_
                                                                refine lv_aload_n hx hb dL_law_1041 rfl (lv_at hl 0 rfl) ?_
                                                                refine lv_iload_n hx hb dL_law_1042 rfl (lv_at hl 3 rfl) ?_
                                                                refine lv_iconst (v := 1) hx hb dL_law_1043 (by decide) ?_
                                                                refine lv_iadd hx hb dL_law_1044 ?_
                                                                obtain ⟨hb_212, hF⟩ := hF
                                                                refine va_sld hx hb hX hbl hbA hS hb_212 dL_law_1045 ?_
                                                                refine lv_aload_n hx hb dL_law_1046 rfl (lv_at hl 0 rfl) ?_
                                                                refine lv_iload_n hx hb dL_law_1047 rfl (lv_at hl 3 rfl) ?_
                                                                refine lv_iconst (v := 2) hx hb dL_law_1048 (by decide) ?_
                                                                refine lv_iadd hx hb dL_law_1049 ?_
                                                                obtain ⟨hb_213, hF⟩ := hF
                                                                refine va_sld hx hb hX hbl hbA hS hb_213 dL_law_1050 ?_
                                                                refine lv_aload_n hx hb dL_law_1051 rfl (lv_at hl 0 rfl) ?_
                                                                refine lv_iload_n hx hb dL_law_1052 rfl (lv_at hl 3 rfl) ?_
                                                                refine lv_iconst (v := 3) hx hb dL_law_1053 (by decide) ?_
                                                                refine lv_iadd hx hb dL_law_1054 ?_
                                                                obtain ⟨hb_214, hF⟩ := hF
                                                                refine va_sld hx hb hX hbl hbA hS hb_214 dL_law_1055 ?_
                                                                refine goL (rV (rest := []) S hK hP (ctX6_cell l D cI cJ ad had (xs (x3_18 + (1 : Int32)).toNatClampNeg) (xs (x3_18 + (2 : Int32)).toNatClampNeg) (xs (x3_18 + (3 : Int32)).toNatClampNeg) _ _ hF) (cwV 3 hts gL_law_X6_cell rfl rfl rfl hdV_X6_cell ⟨Nat.le_of_ble_eq_true rfl, Nat.le_of_ble_eq_true rfl⟩) e_R rfl rfl hl.1 rfl (Nat.le_of_ble_eq_true rfl) dL_law_1056 ⟨Nat.le_of_ble_eq_true rfl, Nat.le_of_ble_eq_true rfl⟩) hS hFA (fun r_215 M_215 H locs hP hS hF => ?_)
                                                                refine lv_aload_n hx hb dL_law_1059 rfl (lv_at hl 2 rfl) ?_
                                                                refine lv_aload_n hx hb dL_law_1060 rfl (lv_at hl 0 rfl) ?_
                                                                refine lv_iload_n hx hb dL_law_1061 rfl (lv_at hl 3 rfl) ?_
                                                                refine lv_iconst (v := 1) hx hb dL_law_1062 (by decide) ?_
                                                                refine lv_iadd hx hb dL_law_1063 ?_
                                                                obtain ⟨hb_216, hF⟩ := hF
                                                                refine va_sld hx hb hX hbl hbA hS hb_216 dL_law_1064 ?_
                                                                refine lv_aload_n hx hb dL_law_1065 rfl (lv_at hl 0 rfl) ?_
                                                                refine lv_iload_n hx hb dL_law_1066 rfl (lv_at hl 3 rfl) ?_
                                                                refine lv_iconst (v := 2) hx hb dL_law_1067 (by decide) ?_
                                                                refine lv_iadd hx hb dL_law_1068 ?_
                                                                obtain ⟨hb_217, hF⟩ := hF
                                                                refine va_sld hx hb hX hbl hbA hS hb_217 dL_law_1069 ?_
                                                                refine lv_aload_n hx hb dL_law_1070 rfl (lv_at hl 0 rfl) ?_
                                                                refine lv_iload_n hx hb dL_law_1071 rfl (lv_at hl 3 rfl) ?_
                                                                refine lv_iconst (v := 3) hx hb dL_law_1072 (by decide) ?_
                                                                refine lv_iadd hx hb dL_law_1073 ?_
                                                                obtain ⟨hb_218, hF⟩ := hF
                                                                refine va_sld hx hb hX hbl hbA hS hb_218 dL_law_1074 ?_
                                                                refine goL (rV (rest := [.long r_215]) S hK hP (ctX7_cell l D cI cJ ad had (xs (x3_18 + (1 : Int32)).toNatClampNeg) (xs (x3_18 + (2 : Int32)).toNatClampNeg) (xs (x3_18 + (3 : Int32)).toNatClampNeg) _ _ hF) (cwV 3 hts gL_law_X7_cell rfl rfl rfl hdV_X7_cell ⟨Nat.le_of_ble_eq_true rfl, Nat.le_of_ble_eq_true rfl⟩) e_M rfl rfl hl.1 rfl (Nat.le_of_ble_eq_true rfl) dL_law_1075 ⟨Nat.le_of_ble_eq_true rfl, Nat.le_of_ble_eq_true rfl⟩) hS hFA (fun r_219 M_219 H locs hP hS hF => ?_)
                                                                refine W.lcmp hx hb dL_law_1078 ?_
                                                                refine lv_if_eq (tgt := 1212) hx hb dL_law_1079 (by decide) (fun c_220 => ?_) (fun c_220 => ?_)
                                                                · have hF := hF.1 (lc_eq.mp c_220)
                                                                  refine lv_iinc (v := (x3_18 + 5)) (lv' := [(3, .int (x3_18 + 5)), (0, .ref b), (1, .ref (ad 0)), (2, .ref (ad 32))]) hx hb dL_law_1212 hl (k := 3) rfl rfl (by decide) rfl (fun ls hl => ?_)
                                                                  refine lv_goto (tgt := 18) hx hb dL_law_1215 (by decide) ?_
                                                                  exact hJ_18 _ _ hF _ _ _ hP hS (lv_sub hl [1, 2, 3, 0] rfl)
                                                                · have hF := hF.2 (fun q => c_220 (lc_eq.mpr q))
                                                                  refine lv_iconst (v := 0) hx hb dL_law_1082 (by decide) ?_
                                                                  exact absurd hF (by decide)
                                                              · have hF := hF.2 c_211
                                                                by_cases c_221 : ((xs x3_18.toNatClampNeg) &&& (63 : Int32)) = 29
                                                                · have hF := hF.1 c_221
                                                                  refine lv_tableIn (off := 1052) (tgt := 1084) hx hb dL_law_32 (by rw [c_221]; decide) (by rw [c_221]; decide) (by rw [c_221]; rfl) (by decide) ?_
                                                                  refine lv_aload_n hx hb dL_law_1084 rfl (lv_at hl 1 rfl) ?_
                                                                  refine lv_aload_n hx hb dL_law_1085 rfl (lv_at hl 0 rfl) ?_
                                                                  refine lv_iload_n hx hb dL_law_1086 rfl (lv_at hl 3 rfl) ?_
                                                                  refine lv_iconst (v := 1) hx hb dL_law_1087 (by decide) ?_
                                                                  refine lv_iadd hx hb dL_law_1088 ?_
                                                                  obtain ⟨hb_222, hF⟩ := hF
                                                                  refine va_sld hx hb hX hbl hbA hS hb_222 dL_law_1089 ?_
                                                                  refine goI (rV (rest := []) S hK hP (ctX6_tell l D cI cJ ad had (xs (x3_18 + (1 : Int32)).toNatClampNeg) _ _ hF) (cwV 1 hts gL_law_X6_tell rfl rfl rfl hdV_X6_tell ⟨Nat.le_of_ble_eq_true rfl, Nat.le_of_ble_eq_true rfl⟩) e_R rfl rfl hl.1 rfl (Nat.le_of_ble_eq_true rfl) dL_law_1090 ⟨Nat.le_of_ble_eq_true rfl, Nat.le_of_ble_eq_true rfl⟩) hS hFA (fun r_223 M_223 H locs hP hS hF => ?_)
                                                                  refine lv_aload_n hx hb dL_law_1093 rfl (lv_at hl 2 rfl) ?_
                                                                  refine lv_aload_n hx hb dL_law_1094 rfl (lv_at hl 0 rfl) ?_
                                                                  refine lv_iload_n hx hb dL_law_1095 rfl (lv_at hl 3 rfl) ?_
                                                                  refine lv_iconst (v := 1) hx hb dL_law_1096 (by decide) ?_
                                                                  refine lv_iadd hx hb dL_law_1097 ?_
                                                                  obtain ⟨hb_224, hF⟩ := hF
                                                                  refine va_sld hx hb hX hbl hbA hS hb_224 dL_law_1098 ?_
                                                                  refine goI (rV (rest := [.int r_223]) S hK hP (ctX7_tell l D cI cJ ad had (xs (x3_18 + (1 : Int32)).toNatClampNeg) _ _ hF) (cwV 1 hts gL_law_X7_tell rfl rfl rfl hdV_X7_tell ⟨Nat.le_of_ble_eq_true rfl, Nat.le_of_ble_eq_true rfl⟩) e_M rfl rfl hl.1 rfl (Nat.le_of_ble_eq_true rfl) dL_law_1099 ⟨Nat.le_of_ble_eq_true rfl, Nat.le_of_ble_eq_true rfl⟩) hS hFA (fun r_225 M_225 H locs hP hS hF => ?_)
                                                                  refine lv_icmp_eq (tgt := 1212) hx hb dL_law_1102 (by decide) (fun c_226 => ?_) (fun c_226 => ?_)
                                                                  · have hF := hF.1 c_226
                                                                    refine lv_iinc (v := (x3_18 + 5)) (lv' := [(3, .int (x3_18 + 5)), (0, .ref b), (1, .ref (ad 0)), (2, .ref (ad 32))]) hx hb dL_law_1212 hl (k := 3) rfl rfl (by decide) rfl (fun ls hl => ?_)
                                                                    refine lv_goto (tgt := 18) hx hb dL_law_1215 (by decide) ?_
                                                                    exact hJ_18 _ _ hF _ _ _ hP hS (lv_sub hl [1, 2, 3, 0] rfl)
                                                                  · have hF := hF.2 c_226
                                                                    refine lv_iconst (v := 0) hx hb dL_law_1105 (by decide) ?_
                                                                    exact absurd hF (by decide)
                                                                · have hF := hF.2 c_221
                                                                  by_cases c_227 : ((xs x3_18.toNatClampNeg) &&& (63 : Int32)) = 30
                                                                  · have hF := hF.1 c_227
                                                                    refine lv_tableIn (off := 1075) (tgt := 1107) hx hb dL_law_32 (by rw [c_227]; decide) (by rw [c_227]; decide) (by rw [c_227]; rfl) (by decide) ?_
                                                                    refine lv_aload_n hx hb dL_law_1107 rfl (lv_at hl 1 rfl) ?_
                                                                    refine lv_aload_n hx hb dL_law_1108 rfl (lv_at hl 0 rfl) ?_
                                                                    refine lv_iload_n hx hb dL_law_1109 rfl (lv_at hl 3 rfl) ?_
                                                                    refine lv_iconst (v := 1) hx hb dL_law_1110 (by decide) ?_
                                                                    refine lv_iadd hx hb dL_law_1111 ?_
                                                                    obtain ⟨hb_228, hF⟩ := hF
                                                                    refine va_sld hx hb hX hbl hbA hS hb_228 dL_law_1112 ?_
                                                                    refine goI (rV (rest := []) S hK hP (ctX6_call l D cI cJ ad had (xs (x3_18 + (1 : Int32)).toNatClampNeg) _ _ hF) (cwV 1 hts gL_law_X6_call rfl rfl rfl hdV_X6_call ⟨Nat.le_of_ble_eq_true rfl, Nat.le_of_ble_eq_true rfl⟩) e_R rfl rfl hl.1 rfl (Nat.le_of_ble_eq_true rfl) dL_law_1113 ⟨Nat.le_of_ble_eq_true rfl, Nat.le_of_ble_eq_true rfl⟩) hS hFA (fun r_229 M_229 H locs hP hS hF => ?_)
                                                                    refine lv_aload_n hx hb dL_law_1116 rfl (lv_at hl 2 rfl) ?_
                                                                    refine lv_aload_n hx hb dL_law_1117 rfl (lv_at hl 0 rfl) ?_
                                                                    refine lv_iload_n hx hb dL_law_1118 rfl (lv_at hl 3 rfl) ?_
                                                                    refine lv_iconst (v := 1) hx hb dL_law_1119 (by decide) ?_
                                                                    refine lv_iadd hx hb dL_law_1120 ?_
                                                                    obtain ⟨hb_230, hF⟩ := hF
                                                                    refine va_sld hx hb hX hbl hbA hS hb_230 dL_law_1121 ?_
                                                                    refine goI (rV (rest := [.int r_229]) S hK hP (ctX7_call l D cI cJ ad had (xs (x3_18 + (1 : Int32)).toNatClampNeg) _ _ hF) (cwV 1 hts gL_law_X7_call rfl rfl rfl hdV_X7_call ⟨Nat.le_of_ble_eq_true rfl, Nat.le_of_ble_eq_true rfl⟩) e_M rfl rfl hl.1 rfl (Nat.le_of_ble_eq_true rfl) dL_law_1122 ⟨Nat.le_of_ble_eq_true rfl, Nat.le_of_ble_eq_true rfl⟩) hS hFA (fun r_231 M_231 H locs hP hS hF => ?_)
                                                                    refine lv_icmp_eq (tgt := 1212) hx hb dL_law_1125 (by decide) (fun c_232 => ?_) (fun c_232 => ?_)
                                                                    · have hF := hF.1 c_232
                                                                      refine lv_iinc (v := (x3_18 + 5)) (lv' := [(3, .int (x3_18 + 5)), (0, .ref b), (1, .ref (ad 0)), (2, .ref (ad 32))]) hx hb dL_law_1212 hl (k := 3) rfl rfl (by decide) rfl (fun ls hl => ?_)
                                                                      refine lv_goto (tgt := 18) hx hb dL_law_1215 (by decide) ?_
                                                                      exact hJ_18 _ _ hF _ _ _ hP hS (lv_sub hl [1, 2, 3, 0] rfl)
                                                                    · have hF := hF.2 c_232
                                                                      refine lv_iconst (v := 0) hx hb dL_law_1128 (by decide) ?_
                                                                      exact absurd hF (by decide)
                                                                  · have hF := hF.2 c_227
                                                                    by_cases c_233 : ((xs x3_18.toNatClampNeg) &&& (63 : Int32)) = 31
                                                                    · have hF := hF.1 c_233
                                                                      refine lv_tableIn (off := 1098) (tgt := 1130) hx hb dL_law_32 (by rw [c_233]; decide) (by rw [c_233]; decide) (by rw [c_233]; rfl) (by decide) ?_
                                                                      refine lv_aload_n hx hb dL_law_1130 rfl (lv_at hl 1 rfl) ?_
                                                                      refine lv_aload_n hx hb dL_law_1131 rfl (lv_at hl 0 rfl) ?_
                                                                      refine lv_iload_n hx hb dL_law_1132 rfl (lv_at hl 3 rfl) ?_
                                                                      refine lv_iconst (v := 1) hx hb dL_law_1133 (by decide) ?_
                                                                      refine lv_iadd hx hb dL_law_1134 ?_
                                                                      obtain ⟨hb_234, hF⟩ := hF
                                                                      refine va_sld hx hb hX hbl hbA hS hb_234 dL_law_1135 ?_
                                                                      refine lv_aload_n hx hb dL_law_1136 rfl (lv_at hl 0 rfl) ?_
                                                                      refine lv_iload_n hx hb dL_law_1137 rfl (lv_at hl 3 rfl) ?_
                                                                      refine lv_iconst (v := 2) hx hb dL_law_1138 (by decide) ?_
                                                                      refine lv_iadd hx hb dL_law_1139 ?_
                                                                      obtain ⟨hb_235, hF⟩ := hF
                                                                      refine va_sld hx hb hX hbl hbA hS hb_235 dL_law_1140 ?_
                                                                      refine goI (rV (rest := []) S hK hP (ctX6_as l D cI cJ ad had (xs (x3_18 + (1 : Int32)).toNatClampNeg) (xs (x3_18 + (2 : Int32)).toNatClampNeg) _ _ hF) (cwV 2 hts gL_law_X6_as rfl rfl rfl hdV_X6_as ⟨Nat.le_of_ble_eq_true rfl, Nat.le_of_ble_eq_true rfl⟩) e_R rfl rfl hl.1 rfl (Nat.le_of_ble_eq_true rfl) dL_law_1141 ⟨Nat.le_of_ble_eq_true rfl, Nat.le_of_ble_eq_true rfl⟩) hS hFA (fun r_236 M_236 H locs hP hS hF => ?_)
                                                                      refine lv_aload_n hx hb dL_law_1144 rfl (lv_at hl 2 rfl) ?_
                                                                      refine lv_aload_n hx hb dL_law_1145 rfl (lv_at hl 0 rfl) ?_
                                                                      refine lv_iload_n hx hb dL_law_1146 rfl (lv_at hl 3 rfl) ?_
                                                                      refine lv_iconst (v := 1) hx hb dL_law_1147 (by decide) ?_
                                                                      refine lv_iadd hx hb dL_law_1148 ?_
                                                                      obtain ⟨hb_237, hF⟩ := hF
                                                                      refine va_sld hx hb hX hbl hbA hS hb_237 dL_law_1149 ?_
                                                                      refine lv_aload_n hx hb dL_law_1150 rfl (lv_at hl 0 rfl) ?_
                                                                      refine lv_iload_n hx hb dL_law_1151 rfl (lv_at hl 3 rfl) ?_
                                                                      refine lv_iconst (v := 2) hx hb dL_law_1152 (by decide) ?_
                                                                      refine lv_iadd hx hb dL_law_1153 ?_
                                                                      obtain ⟨hb_238, hF⟩ := hF
                                                                      refine va_sld hx hb hX hbl hbA hS hb_238 dL_law_1154 ?_
                                                                      refine goI (rV (rest := [.int r_236]) S hK hP (ctX7_as l D cI cJ ad had (xs (x3_18 + (1 : Int32)).toNatClampNeg) (xs (x3_18 + (2 : Int32)).toNatClampNeg) _ _ hF) (cwV 2 hts gL_law_X7_as rfl rfl rfl hdV_X7_as ⟨Nat.le_of_ble_eq_true rfl, Nat.le_of_ble_eq_true rfl⟩) e_M rfl rfl hl.1 rfl (Nat.le_of_ble_eq_true rfl) dL_law_1155 ⟨Nat.le_of_ble_eq_true rfl, Nat.le_of_ble_eq_true rfl⟩) hS hFA (fun r_239 M_239 H locs hP hS hF => ?_)
                                                                      refine lv_icmp_eq (tgt := 1212) hx hb dL_law_1158 (by decide) (fun c_240 => ?_) (fun c_240 => ?_)
                                                                      · have hF := hF.1 c_240
                                                                        refine lv_iinc (v := (x3_18 + 5)) (lv' := [(3, .int (x3_18 + 5)), (0, .ref b), (1, .ref (ad 0)), (2, .ref (ad 32))]) hx hb dL_law_1212 hl (k := 3) rfl rfl (by decide) rfl (fun ls hl => ?_)
                                                                        refine lv_goto (tgt := 18) hx hb dL_law_1215 (by decide) ?_
                                                                        exact hJ_18 _ _ hF _ _ _ hP hS (lv_sub hl [1, 2, 3, 0] rfl)
                                                                      · have hF := hF.2 c_240
                                                                        refine lv_iconst (v := 0) hx hb dL_law_1161 (by decide) ?_
                                                                        exact absurd hF (by decide)
                                                                    · have hF := hF.2 c_233
                                                                      by_cases c_241 : ((xs x3_18.toNatClampNeg) &&& (63 : Int32)) = 32
                                                                      · have hF := hF.1 c_241
                                                                        refine lv_tableIn (off := 1131) (tgt := 1163) hx hb dL_law_32 (by rw [c_241]; decide) (by rw [c_241]; decide) (by rw [c_241]; rfl) (by decide) ?_
                                                                        refine lv_aload_n hx hb dL_law_1163 rfl (lv_at hl 1 rfl) ?_
                                                                        refine goI (rV (rest := []) S hK hP (ctX6_trace l D cI cJ ad had  _ _ hF) (cwV 0 hts gL_law_X6_trace rfl rfl rfl hdV_X6_trace ⟨Nat.le_of_ble_eq_true rfl, Nat.le_of_ble_eq_true rfl⟩) e_R rfl rfl hl.1 rfl (Nat.le_of_ble_eq_true rfl) dL_law_1164 ⟨Nat.le_of_ble_eq_true rfl, Nat.le_of_ble_eq_true rfl⟩) hS hFA (fun r_242 M_242 H locs hP hS hF => ?_)
                                                                        refine lv_aload_n hx hb dL_law_1167 rfl (lv_at hl 2 rfl) ?_
                                                                        refine goI (rV (rest := [.int r_242]) S hK hP (ctX7_trace l D cI cJ ad had  _ _ hF) (cwV 0 hts gL_law_X7_trace rfl rfl rfl hdV_X7_trace ⟨Nat.le_of_ble_eq_true rfl, Nat.le_of_ble_eq_true rfl⟩) e_M rfl rfl hl.1 rfl (Nat.le_of_ble_eq_true rfl) dL_law_1168 ⟨Nat.le_of_ble_eq_true rfl, Nat.le_of_ble_eq_true rfl⟩) hS hFA (fun r_243 M_243 H locs hP hS hF => ?_)
                                                                        refine lv_icmp_eq (tgt := 1212) hx hb dL_law_1171 (by decide) (fun c_244 => ?_) (fun c_244 => ?_)
                                                                        · have hF := hF.1 c_244
                                                                          refine lv_iinc (v := (x3_18 + 5)) (lv' := [(3, .int (x3_18 + 5)), (0, .ref b), (1, .ref (ad 0)), (2, .ref (ad 32))]) hx hb dL_law_1212 hl (k := 3) rfl rfl (by decide) rfl (fun ls hl => ?_)
                                                                          refine lv_goto (tgt := 18) hx hb dL_law_1215 (by decide) ?_
                                                                          exact hJ_18 _ _ hF _ _ _ hP hS (lv_sub hl [1, 2, 3, 0] rfl)
                                                                        · have hF := hF.2 c_244
                                                                          refine lv_iconst (v := 0) hx hb dL_law_1174 (by decide) ?_
                                                                          exact absurd hF (by decide)
                                                                      · have hF := hF.2 c_241
                                                                        by_cases c_245 : ((xs x3_18.toNatClampNeg) &&& (63 : Int32)) = 33
                                                                        · have hF := hF.1 c_245
                                                                          refine lv_tableIn (off := 1144) (tgt := 1176) hx hb dL_law_32 (by rw [c_245]; decide) (by rw [c_245]; decide) (by rw [c_245]; rfl) (by decide) ?_
                                                                          refine lv_aload_n hx hb dL_law_1176 rfl (lv_at hl 1 rfl) ?_
                                                                          refine goI (rV (rest := []) S hK hP (ctX6_fault l D cI cJ ad had  _ _ hF) (cwV 0 hts gL_law_X6_fault rfl rfl rfl hdV_X6_fault ⟨Nat.le_of_ble_eq_true rfl, Nat.le_of_ble_eq_true rfl⟩) e_R rfl rfl hl.1 rfl (Nat.le_of_ble_eq_true rfl) dL_law_1177 ⟨Nat.le_of_ble_eq_true rfl, Nat.le_of_ble_eq_true rfl⟩) hS hFA (fun r_246 M_246 H locs hP hS hF => ?_)
                                                                          refine lv_aload_n hx hb dL_law_1180 rfl (lv_at hl 2 rfl) ?_
                                                                          refine goI (rV (rest := [.int r_246]) S hK hP (ctX7_fault l D cI cJ ad had  _ _ hF) (cwV 0 hts gL_law_X7_fault rfl rfl rfl hdV_X7_fault ⟨Nat.le_of_ble_eq_true rfl, Nat.le_of_ble_eq_true rfl⟩) e_M rfl rfl hl.1 rfl (Nat.le_of_ble_eq_true rfl) dL_law_1181 ⟨Nat.le_of_ble_eq_true rfl, Nat.le_of_ble_eq_true rfl⟩) hS hFA (fun r_247 M_247 H locs hP hS hF => ?_)
                                                                          refine lv_icmp_eq (tgt := 1212) hx hb dL_law_1184 (by decide) (fun c_248 => ?_) (fun c_248 => ?_)
                                                                          · have hF := hF.1 c_248
                                                                            refine lv_iinc (v := (x3_18 + 5)) (lv' := [(3, .int (x3_18 + 5)), (0, .ref b), (1, .ref (ad 0)), (2, .ref (ad 32))]) hx hb dL_law_1212 hl (k := 3) rfl rfl (by decide) rfl (fun ls hl => ?_)
                                                                            refine lv_goto (tgt := 18) hx hb dL_law_1215 (by decide) ?_
                                                                            exact hJ_18 _ _ hF _ _ _ hP hS (lv_sub hl [1, 2, 3, 0] rfl)
                                                                          · have hF := hF.2 c_248
                                                                            refine lv_iconst (v := 0) hx hb dL_law_1187 (by decide) ?_
                                                                            exact absurd hF (by decide)
                                                                        · have hF := hF.2 c_245
                                                                          by_cases c_249 : ((xs x3_18.toNatClampNeg) &&& (63 : Int32)) = 34
                                                                          · have hF := hF.1 c_249
                                                                            refine lv_tableIn (off := 1157) (tgt := 1189) hx hb dL_law_32 (by rw [c_249]; decide) (by rw [c_249]; decide) (by rw [c_249]; rfl) (by decide) ?_
                                                                            refine lv_aload_n hx hb dL_law_1189 rfl (lv_at hl 1 rfl) ?_
                                                                            refine lv_aload_n hx hb dL_law_1190 rfl (lv_at hl 0 rfl) ?_
                                                                            refine lv_iload_n hx hb dL_law_1191 rfl (lv_at hl 3 rfl) ?_
                                                                            refine lv_iconst (v := 1) hx hb dL_law_1192 (by decide) ?_
                                                                            refine lv_iadd hx hb dL_law_1193 ?_
                                                                            obtain ⟨hb_250, hF⟩ := hF
                                                                            refine va_sld hx hb hX hbl hbA hS hb_250 dL_law_1194 ?_
                                                                            refine goI (rV (rest := []) S hK hP (ctX6_many l D cI cJ ad had (xs (x3_18 + (1 : Int32)).toNatClampNeg) _ _ hF) (cwV 1 hts gL_law_X6_many rfl rfl rfl hdV_X6_many ⟨Nat.le_of_ble_eq_true rfl, Nat.le_of_ble_eq_true rfl⟩) e_R rfl rfl hl.1 rfl (Nat.le_of_ble_eq_true rfl) dL_law_1195 ⟨Nat.le_of_ble_eq_true rfl, Nat.le_of_ble_eq_true rfl⟩) hS hFA (fun r_251 M_251 H locs hP hS hF => ?_)
                                                                            refine lv_aload_n hx hb dL_law_1198 rfl (lv_at hl 2 rfl) ?_
                                                                            refine lv_aload_n hx hb dL_law_1199 rfl (lv_at hl 0 rfl) ?_
                                                                            refine lv_iload_n hx hb dL_law_1200 rfl (lv_at hl 3 rfl) ?_
                                                                            refine lv_iconst (v := 1) hx hb dL_law_1201 (by decide) ?_
                                                                            refine lv_iadd hx hb dL_law_1202 ?_
                                                                            obtain ⟨hb_252, hF⟩ := hF
                                                                            refine va_sld hx hb hX hbl hbA hS hb_252 dL_law_1203 ?_
                                                                            refine goI (rV (rest := [.int r_251]) S hK hP (ctX7_many l D cI cJ ad had (xs (x3_18 + (1 : Int32)).toNatClampNeg) _ _ hF) (cwV 1 hts gL_law_X7_many rfl rfl rfl hdV_X7_many ⟨Nat.le_of_ble_eq_true rfl, Nat.le_of_ble_eq_true rfl⟩) e_M rfl rfl hl.1 rfl (Nat.le_of_ble_eq_true rfl) dL_law_1204 ⟨Nat.le_of_ble_eq_true rfl, Nat.le_of_ble_eq_true rfl⟩) hS hFA (fun r_253 M_253 H locs hP hS hF => ?_)
                                                                            refine lv_icmp_eq (tgt := 1212) hx hb dL_law_1207 (by decide) (fun c_254 => ?_) (fun c_254 => ?_)
                                                                            · have hF := hF.1 c_254
                                                                              refine lv_iinc (v := (x3_18 + 5)) (lv' := [(3, .int (x3_18 + 5)), (0, .ref b), (1, .ref (ad 0)), (2, .ref (ad 32))]) hx hb dL_law_1212 hl (k := 3) rfl rfl (by decide) rfl (fun ls hl => ?_)
                                                                              refine lv_goto (tgt := 18) hx hb dL_law_1215 (by decide) ?_
                                                                              exact hJ_18 _ _ hF _ _ _ hP hS (lv_sub hl [1, 2, 3, 0] rfl)
                                                                            · have hF := hF.2 c_254
                                                                              refine lv_iconst (v := 0) hx hb dL_law_1210 (by decide) ?_
                                                                              exact absurd hF (by decide)
                                                                          · have hF := hF.2 c_249
                                                                            refine lv_tableOut (tgt := 1212) hx hb dL_law_32 (by have q0 := lv_neT c_3 (k := 0) (a := 0) (by decide); have q1 := lv_neT c_15 (k := 1) (a := 1) (by decide); have q2 := lv_neT c_21 (k := 2) (a := 2) (by decide); have q3 := lv_neT c_29 (k := 3) (a := 3) (by decide); have q4 := lv_neT c_37 (k := 4) (a := 4) (by decide); have q5 := lv_neT c_43 (k := 5) (a := 5) (by decide); have q6 := lv_neT c_51 (k := 6) (a := 6) (by decide); have q7 := lv_neT c_57 (k := 7) (a := 7) (by decide); have q8 := lv_neT c_65 (k := 8) (a := 8) (by decide); have q9 := lv_neT c_71 (k := 9) (a := 9) (by decide); have q10 := lv_neT c_79 (k := 10) (a := 10) (by decide); have q11 := lv_neT c_87 (k := 11) (a := 11) (by decide); have q12 := lv_neT c_99 (k := 12) (a := 12) (by decide); have q13 := lv_neT c_107 (k := 13) (a := 13) (by decide); have q14 := lv_neT c_113 (k := 14) (a := 14) (by decide); have q15 := lv_neT c_119 (k := 15) (a := 15) (by decide); have q16 := lv_neT c_127 (k := 16) (a := 16) (by decide); have q17 := lv_neT c_133 (k := 17) (a := 17) (by decide); have q18 := lv_neT c_143 (k := 18) (a := 18) (by decide); have q19 := lv_neT c_147 (k := 19) (a := 19) (by decide); have q20 := lv_neT c_153 (k := 20) (a := 20) (by decide); have q21 := lv_neT c_161 (k := 21) (a := 21) (by decide); have q22 := lv_neT c_169 (k := 22) (a := 22) (by decide); have q23 := lv_neT c_175 (k := 23) (a := 23) (by decide); have q24 := lv_neT c_181 (k := 24) (a := 24) (by decide); have q25 := lv_neT c_185 (k := 25) (a := 25) (by decide); have q26 := lv_neT c_195 (k := 26) (a := 26) (by decide); have q27 := lv_neT c_201 (k := 27) (a := 27) (by decide); have q28 := lv_neT c_211 (k := 28) (a := 28) (by decide); have q29 := lv_neT c_221 (k := 29) (a := 29) (by decide); have q30 := lv_neT c_227 (k := 30) (a := 30) (by decide); have q31 := lv_neT c_233 (k := 31) (a := 31) (by decide); have q32 := lv_neT c_241 (k := 32) (a := 32) (by decide); have q33 := lv_neT c_245 (k := 33) (a := 33) (by decide); have q34 := lv_neT c_249 (k := 34) (a := 34) (by decide); omega) (by decide) ?_
                                                                            refine lv_iinc (v := (x3_18 + 5)) (lv' := [(3, .int (x3_18 + 5)), (0, .ref b), (1, .ref (ad 0)), (2, .ref (ad 32))]) hx hb dL_law_1212 hl (k := 3) rfl rfl (by decide) rfl (fun ls hl => ?_)
                                                                            refine lv_goto (tgt := 18) hx hb dL_law_1215 (by decide) ?_
                                                                            exact hJ_18 _ _ hF _ _ _ hP hS (lv_sub hl [1, 2, 3, 0] rfl)
  exact key_18 _ _ hF _ _ _ hP hS (lv_sub hl [0, 1, 2, 3] rfl)
