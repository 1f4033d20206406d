/-! the law answers 1 on every script -/
theorem law_end {Ls k : Nat} (h : Ls ≤ 2560) (hk : 5 * k ≤ 2560) : (Int32.ofNat Ls - (5 : Int32) < nI (5 * k)) ↔ Ls < 5 * k + 5 := by
  have e := pk_sub_toInt (a := Ls) (b := 5) (by omega) (by omega)
  have e2 := nI_toInt (n := 5 * k) (by omega)
  have e : (Int32.ofNat Ls - (5 : Int32)).toInt = (Ls : Int) - (5 : Nat) := e
  rw [i_lt, e, e2]
  omega
theorem law_ok {Ls : Nat} {xs : Nat → Int32} (h : Ls ≤ 2560) : lL_law_18 Ls xs 0 M0 := by
  refine up_loop (fun k m => lL_law_18 Ls xs (nI (5 * k)) m) (fun _ m => Rel m) (Ls / 5) ?_ ?_ 0 M0 (Nat.zero_le _) rel_0
  · intro m _
    exact lL_law_18_mk _ _ _ _ (br_t ((law_end h (by omega)).mpr (by omega)) rfl)
  · intro k m hk hr ih
    have hk5 : 5 * k + 5 ≤ Ls := by omega
    have hv : vp_in (nI (5 * k)) Ls := vp_in_nI (by omega) (by omega)
    have hv1 : vp_in (nI (5 * k) + (1 : Int32)) Ls := by rw [show (1 : Int32) = nI 1 from rfl, nI_add]; exact vp_in_nI (by omega) (by omega)
    have hv2 : vp_in (nI (5 * k) + (2 : Int32)) Ls := by rw [show (2 : Int32) = nI 2 from rfl, nI_add]; exact vp_in_nI (by omega) (by omega)
    have hv3 : vp_in (nI (5 * k) + (3 : Int32)) Ls := by rw [show (3 : Int32) = nI 3 from rfl, nI_add]; exact vp_in_nI (by omega) (by omega)
    have hv4 : vp_in (nI (5 * k) + (4 : Int32)) Ls := by rw [show (4 : Int32) = nI 4 from rfl, nI_add]; exact vp_in_nI (by omega) (by omega)
    have go : ∀ m', Rel m' → lL_law_18 Ls xs (nI (5 * k) + (5 : Int32)) m' := fun m' g => by
      rw [show (5 : Int32) = nI 5 from rfl, nI_add, show 5 * k + 5 = 5 * (k + 1) by omega]
      exact ih m' g
    refine lL_law_18_mk _ _ _ _ (br_f (fun z => by have := (law_end h (by omega)).mp z; omega) ⟨hv, ?_⟩)
    refine br_c (fun _ => ⟨hv1, hv2, hv3, hv4, wX6_place_mono (fun _ _ h => ⟨hv1, hv2, hv3, hv4, wX7_place_mono (fun _ _ h => ⟨fun _ => go _ h.2, fun q => absurd h.1 q⟩) h⟩) (ok_place _ _ _ _ hr)⟩) (fun _ => ?_)
    refine br_c (fun _ => ⟨hv1, wX6_about_mono (fun _ _ h => ⟨hv1, wX7_about_mono (fun _ _ h => ⟨fun _ => go _ h.2, fun q => absurd h.1 q⟩) h⟩) (ok_about _ hr)⟩) (fun _ => ?_)
    refine br_c (fun _ => ⟨hv1, hv2, wX6_ofSort_mono (fun _ _ h => ⟨hv1, hv2, wX7_ofSort_mono (fun _ _ h => ⟨fun _ => go _ h.2, fun q => absurd h.1 q⟩) h⟩) (ok_ofSort _ _ hr)⟩) (fun _ => ?_)
    refine br_c (fun _ => ⟨hv1, hv2, wX6_bar_mono (fun _ _ h => ⟨hv1, hv2, wX7_bar_mono (fun _ _ h => ⟨fun _ => go _ h.2, fun q => absurd h.1 q⟩) h⟩) (ok_bar _ _ hr)⟩) (fun _ => ?_)
    refine br_c (fun _ => ⟨hv1, wX6_toll_mono (fun _ _ h => ⟨hv1, wX7_toll_mono (fun _ _ h => ⟨fun _ => go _ h.2, fun q => absurd h.1 q⟩) h⟩) (ok_toll _ hr)⟩) (fun _ => ?_)
    refine br_c (fun _ => ⟨hv1, hv2, wX6_board_mono (fun _ _ h => ⟨hv1, hv2, wX7_board_mono (fun _ _ h => ⟨fun _ => go _ h.2, fun q => absurd h.1 q⟩) h⟩) (ok_board _ _ hr)⟩) (fun _ => ?_)
    refine br_c (fun _ => ⟨hv1, wX6_bars_mono (fun _ _ h => ⟨hv1, wX7_bars_mono (fun _ _ h => ⟨fun _ => go _ h.2, fun q => absurd h.1 q⟩) h⟩) (ok_bars _ hr)⟩) (fun _ => ?_)
    refine br_c (fun _ => ⟨hv1, hv2, wX6_often_mono (fun _ _ h => ⟨hv1, hv2, wX7_often_mono (fun _ _ h => ⟨fun _ => go _ h.2, fun q => absurd h.1 q⟩) h⟩) (ok_often _ _ hr)⟩) (fun _ => ?_)
    refine br_c (fun _ => ⟨hv1, wX6_mean_mono (fun _ _ h => ⟨hv1, wX7_mean_mono (fun _ _ h => ⟨fun _ => go _ h.2, fun q => absurd h.1 q⟩) h⟩) (ok_mean _ hr)⟩) (fun _ => ?_)
    refine br_c (fun _ => ⟨hv1, hv2, wX6_on_mono (fun _ _ h => ⟨hv1, hv2, wX7_on_mono (fun _ _ h => ⟨fun _ => go _ h.2, fun q => absurd h.1 q⟩) h⟩) (ok_on _ _ hr)⟩) (fun _ => ?_)
    refine br_c (fun _ => ⟨hv1, hv2, wX6_less_mono (fun _ _ h => ⟨hv1, hv2, wX7_less_mono (fun _ _ h => ⟨fun _ => go _ h.2, fun q => absurd h.1 q⟩) h⟩) (ok_less _ _ hr)⟩) (fun _ => ?_)
    refine br_c (fun _ => ⟨hv1, hv2, hv3, hv4, wX6_after_mono (fun _ _ h => ⟨hv1, hv2, hv3, hv4, wX7_after_mono (fun _ _ h => ⟨fun _ => go _ h.2, fun q => absurd h.1 q⟩) h⟩) (ok_after _ _ _ _ hr)⟩) (fun _ => ?_)
    refine br_c (fun _ => ⟨hv1, hv2, wX6_minutes_mono (fun _ _ h => ⟨hv1, hv2, wX7_minutes_mono (fun _ _ h => ⟨fun _ => go _ h.2, fun q => absurd h.1 q⟩) h⟩) (ok_minutes _ _ hr)⟩) (fun _ => ?_)
    refine br_c (fun _ => ⟨hv1, wX6_gain_mono (fun _ _ h => ⟨hv1, wX7_gain_mono (fun _ _ h => ⟨fun _ => go _ h.2, fun q => absurd h.1 q⟩) h⟩) (ok_gain _ hr)⟩) (fun _ => ?_)
    refine br_c (fun _ => ⟨hv1, wX6_best_mono (fun _ _ h => ⟨hv1, wX7_best_mono (fun _ _ h => ⟨fun _ => go _ h.2, fun q => absurd h.1 q⟩) h⟩) (ok_best _ hr)⟩) (fun _ => ?_)
    refine br_c (fun _ => ⟨hv1, hv2, wX6_against_mono (fun _ _ h => ⟨hv1, hv2, wX7_against_mono (fun _ _ h => ⟨fun _ => go _ h.2, fun q => absurd h.1 q⟩) h⟩) (ok_against _ _ hr)⟩) (fun _ => ?_)
    refine br_c (fun _ => ⟨hv1, wX6_mends_mono (fun _ _ h => ⟨hv1, wX7_mends_mono (fun _ _ h => ⟨fun _ => go _ h.2, fun q => absurd h.1 q⟩) h⟩) (ok_mends _ hr)⟩) (fun _ => ?_)
    refine br_c (fun _ => ⟨hv1, hv2, hv3, wX6_blind_mono (fun _ _ h => ⟨hv1, hv2, hv3, wX7_blind_mono (fun _ _ h => ⟨fun _ => go _ h.2, fun q => absurd h.1 q⟩) h⟩) (ok_blind _ _ _ hr)⟩) (fun _ => ?_)
    refine br_c (fun _ => wX6_rest_mono (fun _ _ h => wX7_rest_mono (fun _ _ h => ⟨fun _ => go _ h.2, fun q => absurd h.1 q⟩) h) (ok_rest hr)) (fun _ => ?_)
    refine br_c (fun _ => ⟨hv1, wX6_order_mono (fun _ _ h => ⟨hv1, wX7_order_mono (fun _ _ h => ⟨fun _ => go _ h.2, fun q => absurd h.1 q⟩) h⟩) (ok_order _ hr)⟩) (fun _ => ?_)
    refine br_c (fun _ => ⟨hv1, hv2, wX6_minute_mono (fun _ _ h => ⟨hv1, hv2, wX7_minute_mono (fun _ _ h => ⟨fun _ => go _ h.2, fun q => absurd h.1 q⟩) h⟩) (ok_minute _ _ hr)⟩) (fun _ => ?_)
    refine br_c (fun _ => ⟨hv1, hv2, wX6_ofComer_mono (fun _ _ h => ⟨hv1, hv2, wX7_ofComer_mono (fun _ _ h => ⟨fun _ => go _ h.2, fun q => absurd h.1 q⟩) h⟩) (ok_ofComer _ _ hr)⟩) (fun _ => ?_)
    refine br_c (fun _ => ⟨hv1, wX6_leave_mono (fun _ _ h => ⟨hv1, wX7_leave_mono (fun _ _ h => ⟨fun _ => go _ h.2, fun q => absurd h.1 q⟩) h⟩) (ok_leave _ hr)⟩) (fun _ => ?_)
    refine br_c (fun _ => ⟨hv1, wX6_line_mono (fun _ _ h => ⟨hv1, wX7_line_mono (fun _ _ h => ⟨fun _ => go _ h.2, fun q => absurd h.1 q⟩) h⟩) (ok_line _ hr)⟩) (fun _ => ?_)
    refine br_c (fun _ => wX6_envy_mono (fun _ _ h => wX7_envy_mono (fun _ _ h => ⟨fun _ => go _ h.2, fun q => absurd h.1 q⟩) h) (ok_envy hr)) (fun _ => ?_)
    refine br_c (fun _ => ⟨hv1, hv2, hv3, wX6_sheet_mono (fun _ _ h => ⟨hv1, hv2, hv3, wX7_sheet_mono (fun _ _ h => ⟨fun _ => go _ h.2, fun q => absurd h.1 q⟩) h⟩) (ok_sheet _ _ _ hr)⟩) (fun _ => ?_)
    refine br_c (fun _ => ⟨hv1, wX6_lose_mono (fun _ _ h => ⟨hv1, wX7_lose_mono (fun _ _ h => ⟨fun _ => go _ h.2, fun q => absurd h.1 q⟩) h⟩) (ok_lose _ hr)⟩) (fun _ => ?_)
    refine br_c (fun _ => ⟨hv1, hv2, hv3, wX6_put_mono (fun _ _ h => ⟨hv1, hv2, hv3, wX7_put_mono (fun _ _ h => ⟨fun _ => go _ h.2, fun q => absurd h.1 q⟩) h⟩) (ok_put _ _ _ hr)⟩) (fun _ => ?_)
    refine br_c (fun _ => ⟨hv1, hv2, hv3, wX6_cell_mono (fun _ _ h => ⟨hv1, hv2, hv3, wX7_cell_mono (fun _ _ h => ⟨fun _ => go _ h.2, fun q => absurd h.1 q⟩) h⟩) (ok_cell _ _ _ hr)⟩) (fun _ => ?_)
    refine br_c (fun _ => ⟨hv1, wX6_tell_mono (fun _ _ h => ⟨hv1, wX7_tell_mono (fun _ _ h => ⟨fun _ => go _ h.2, fun q => absurd h.1 q⟩) h⟩) (ok_tell _ hr)⟩) (fun _ => ?_)
    refine br_c (fun _ => ⟨hv1, wX6_call_mono (fun _ _ h => ⟨hv1, wX7_call_mono (fun _ _ h => ⟨fun _ => go _ h.2, fun q => absurd h.1 q⟩) h⟩) (ok_call _ hr)⟩) (fun _ => ?_)
    refine br_c (fun _ => ⟨hv1, hv2, wX6_as_mono (fun _ _ h => ⟨hv1, hv2, wX7_as_mono (fun _ _ h => ⟨fun _ => go _ h.2, fun q => absurd h.1 q⟩) h⟩) (ok_as _ _ hr)⟩) (fun _ => ?_)
    refine br_c (fun _ => wX6_trace_mono (fun _ _ h => wX7_trace_mono (fun _ _ h => ⟨fun _ => go _ h.2, fun q => absurd h.1 q⟩) h) (ok_trace hr)) (fun _ => ?_)
    refine br_c (fun _ => wX6_fault_mono (fun _ _ h => wX7_fault_mono (fun _ _ h => ⟨fun _ => go _ h.2, fun q => absurd h.1 q⟩) h) (ok_fault hr)) (fun _ => ?_)
    refine br_c (fun _ => ⟨hv1, wX6_many_mono (fun _ _ h => ⟨hv1, wX7_many_mono (fun _ _ h => ⟨fun _ => go _ h.2, fun q => absurd h.1 q⟩) h⟩) (ok_many _ hr)⟩) (fun _ => ?_)
    exact go _ hr
