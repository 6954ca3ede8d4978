set_option maxRecDepth 100000 in
set_option maxHeartbeats 4000000 in
theorem c_X1_distanceOf (l : Launch) (D : va_G) (cI cJ : ClassId) (sp da ra : Nat) (ct : Int) (g : Nat → Int) (L : Int → Int) (z : Int) (hL : LenOK L g) (hz1 : -2147483648 ≤ z) (hz2 : z < 2147483648) : PM l yX1_distanceOf (.code yX1_distanceOf cX1_distanceOf 2 (some .int)) 0 [.ref sp, .int (iI z)] D cI cJ [(sp, .inr (1, [.ref da, .ref ra, .int (iI ct)])), (da, .inl (cI, 16807, .inl (aI g)))] (fun r => r = L z) := by
  refine PM_of (by decide) rfl (Nat.le_of_ble_eq_true rfl) (fun p e s m below meth c ls hx hb hr hts hown hlk hml hK hP hl => ?_)
  have hl : lv_has ls 2 [(0, .ref sp), (1, .int (iI z))] := hl
  refine lv_iload_n hx hb dX1_distanceOf_0 rfl (lv_at hl 1 rfl) ?_
  refine zv_if_lt hx hb dX1_distanceOf_1 (tgt := 22) (by decide) ⟨by omega, by omega⟩ (fun c_1 => ?_) (fun c_1 => ?_)
  · refine zv_iconst hx hb dX1_distanceOf_22 ?_
    exact PM_iret hx hb hr hlk dX1_distanceOf_23 (by first | rfl | exact (hL.o z (by omega)).symm)
  · refine lv_iload_n hx hb dX1_distanceOf_4 rfl (lv_at hl 1 rfl) ?_
    refine lv_aload_n hx hb dX1_distanceOf_5 rfl (lv_at hl 0 rfl) ?_
    refine va_get (D := D) (ci := 1) (v := .ref da) (C := RX1) (T := TX1) (N := 3) hx hb hts uX1 hown hK.1 hP 0 rfl rfl 0 (by decide) (hts _ q_28) (fun _ h9 => h9) rfl dX1_distanceOf_6 ?_
    refine zv_alen hx hb hK.1 hP 1 0 rfl rfl dX1_distanceOf_9 ?_
    refine zv_icmp_ge hx hb dX1_distanceOf_10 (tgt := 22) (by decide) ⟨by omega, by omega⟩ ⟨by omega, by omega⟩ (fun c_2 => ?_) (fun c_2 => ?_)
    · refine zv_iconst hx hb dX1_distanceOf_22 ?_
      exact PM_iret hx hb hr hlk dX1_distanceOf_23 (by first | rfl | exact (hL.o z (by omega)).symm)
    · refine lv_aload_n hx hb dX1_distanceOf_13 rfl (lv_at hl 0 rfl) ?_
      refine va_get (D := D) (ci := 1) (v := .ref da) (C := RX1) (T := TX1) (N := 3) hx hb hts uX1 hown hK.1 hP 0 rfl rfl 0 (by decide) (hts _ q_28) (fun _ h9 => h9) rfl dX1_distanceOf_14 ?_
      refine lv_iload_n hx hb dX1_distanceOf_17 rfl (lv_at hl 1 rfl) ?_
      refine zv_iald hx hb hK.1 hP 1 0 rfl rfl (by omega) (by omega) (by omega) dX1_distanceOf_18 ?_
      refine zv_top (y := L z) (hL.g (by omega) (by omega)) ?_
      refine lv_goto (tgt := 23) hx hb dX1_distanceOf_19 (by decide) ?_
      exact PM_iret hx hb hr hlk dX1_distanceOf_23 (by first | rfl | exact (hL.o z (by omega)).symm)
set_option maxRecDepth 100000 in
set_option maxHeartbeats 4000000 in
theorem c_X1_count (l : Launch) (D : va_G) (cI cJ : ClassId) (sp da ra : Nat) (ct : Int) : PM l yX1_count (.code yX1_count cX1_count 1 (some .int)) 0 [.ref sp] D cI cJ [(sp, .inr (1, [.ref da, .ref ra, .int (iI ct)]))] (fun r => r = ct) := by
  refine PM_of (by decide) rfl (Nat.le_of_ble_eq_true rfl) (fun p e s m below meth c ls hx hb hr hts hown hlk hml hK hP hl => ?_)
  have hl : lv_has ls 1 [(0, .ref sp)] := hl
  refine lv_aload_n hx hb dX1_count_0 rfl (lv_at hl 0 rfl) ?_
  refine va_get (D := D) (ci := 1) (v := .int (iI ct)) (C := RX1) (T := TX1) (N := 3) hx hb hts uX1 hown hK.1 hP 0 rfl rfl 2 (by decide) (hts _ q_30) (fun _ h9 => h9) rfl dX1_count_1 ?_
  exact PM_iret hx hb hr hlk dX1_count_4 (by first | rfl | omega)
set_option maxRecDepth 100000 in
set_option maxHeartbeats 4000000 in
theorem c_X1_placeAt (l : Launch) (D : va_G) (cI cJ : ClassId) (sp da ra : Nat) (ct : Int) (h : Nat → Int) (i : Int) (hc1 : 0 ≤ ct) (hc2 : ct ≤ 9163) (hi0 : 0 ≤ i) (hi1 : i < ct) : PM l yX1_placeAt (.code yX1_placeAt cX1_placeAt 2 (some .int)) 0 [.ref sp, .int (iI i)] D cI cJ [(sp, .inr (1, [.ref da, .ref ra, .int (iI ct)])), (ra, .inl (cI, 9163, .inl (aI h)))] (fun r => r = (h i.toNat)) := by
  refine PM_of (by decide) rfl (Nat.le_of_ble_eq_true rfl) (fun p e s m below meth c ls hx hb hr hts hown hlk hml hK hP hl => ?_)
  have hl : lv_has ls 2 [(0, .ref sp), (1, .int (iI i))] := hl
  refine lv_iload_n hx hb dX1_placeAt_0 rfl (lv_at hl 1 rfl) ?_
  refine zv_if_lt hx hb dX1_placeAt_1 (tgt := 30) (by decide) ⟨by omega, by omega⟩ (fun c_1 => by exfalso; omega) (fun c_1 => ?_)
  refine lv_iload_n hx hb dX1_placeAt_4 rfl (lv_at hl 1 rfl) ?_
  refine lv_aload_n hx hb dX1_placeAt_5 rfl (lv_at hl 0 rfl) ?_
  refine va_get (D := D) (ci := 1) (v := .int (iI ct)) (C := RX1) (T := TX1) (N := 3) hx hb hts uX1 hown hK.1 hP 0 rfl rfl 2 (by decide) (hts _ q_30) (fun _ h9 => h9) rfl dX1_placeAt_6 ?_
  refine zv_icmp_ge hx hb dX1_placeAt_9 (tgt := 30) (by decide) ⟨by omega, by omega⟩ ⟨by omega, by omega⟩ (fun c_2 => by exfalso; omega) (fun c_2 => ?_)
  refine lv_iload_n hx hb dX1_placeAt_12 rfl (lv_at hl 1 rfl) ?_
  refine lv_aload_n hx hb dX1_placeAt_13 rfl (lv_at hl 0 rfl) ?_
  refine va_get (D := D) (ci := 1) (v := .ref ra) (C := RX1) (T := TX1) (N := 3) hx hb hts uX1 hown hK.1 hP 0 rfl rfl 1 (by decide) (hts _ q_29) (fun _ h9 => h9) rfl dX1_placeAt_14 ?_
  refine zv_alen hx hb hK.1 hP 1 0 rfl rfl dX1_placeAt_17 ?_
  refine zv_icmp_ge hx hb dX1_placeAt_18 (tgt := 30) (by decide) ⟨by omega, by omega⟩ ⟨by omega, by omega⟩ (fun c_3 => by exfalso; omega) (fun c_3 => ?_)
  refine lv_aload_n hx hb dX1_placeAt_21 rfl (lv_at hl 0 rfl) ?_
  refine va_get (D := D) (ci := 1) (v := .ref ra) (C := RX1) (T := TX1) (N := 3) hx hb hts uX1 hown hK.1 hP 0 rfl rfl 1 (by decide) (hts _ q_29) (fun _ h9 => h9) rfl dX1_placeAt_22 ?_
  refine lv_iload_n hx hb dX1_placeAt_25 rfl (lv_at hl 1 rfl) ?_
  refine zv_iald hx hb hK.1 hP 1 0 rfl rfl (by omega) (by omega) (by omega) dX1_placeAt_26 ?_
  refine lv_goto (tgt := 31) hx hb dX1_placeAt_27 (by decide) ?_
  exact PM_iret hx hb hr hlk dX1_placeAt_31 (by first | rfl | omega)
set_option maxRecDepth 100000 in
set_option maxHeartbeats 4000000 in
theorem c_X2_isWithinLimit (l : Launch) (D : va_G) (cI cJ : ClassId) (tt fl s1 s2 pn d1 r1 : Nat) (lim bs P sm C R np c1 : Int) (gn g1 : Nat → Int) (N L : Int → Int) (x : Int) (hF : FlOK C R np N gn) (hL : LenOK L g1) (hlm : 1 ≤ lim ∧ lim ≤ 60) (hx1 : -2147483648 ≤ x) (hx2 : x < 2147483648) : PM l yX2_isWithinLimit (.code yX2_isWithinLimit cX2_isWithinLimit 2 (some .boolean)) 0 [.ref tt, .int (iI x)] D cI cJ [(tt, .inr (2, [.ref fl, .int (iI lim), .ref s1, .ref s2, .int (iI bs), .int (iI P), .int (iI sm)])), (fl, .inr (0, [.int (iI C), .int (iI R), .ref pn, .int (iI np)])), (pn, .inl (cI, 49, .inl (aI gn))), (s1, .inr (1, [.ref d1, .ref r1, .int (iI c1)])), (d1, .inl (cI, 16807, .inl (aI g1)))] (fun r => (r = 1 ∧ (x ≠ -1 ∧ x ≤ lim)) ∨ (r = 0 ∧ ¬ (x ≠ -1 ∧ x ≤ lim))) := by
  obtain ⟨hC1, hC2, hR1, hR2, hp1, hp2, -, -⟩ := id hF
  refine PM_of (by decide) rfl (Nat.le_of_ble_eq_true rfl) (fun p e s m below meth c ls hx hb hr hts hown hlk hml hK hP hl => ?_)
  have hl : lv_has ls 2 [(0, .ref tt), (1, .int (iI x))] := hl
  refine lv_iload_n hx hb dX2_isWithinLimit_0 rfl (lv_at hl 1 rfl) ?_
  refine zv_iconst hx hb dX2_isWithinLimit_1 ?_
  refine zv_icmp_eq hx hb dX2_isWithinLimit_2 (tgt := 17) (by decide) ⟨by omega, by omega⟩ ⟨by omega, by omega⟩ (fun c_1 => ?_) (fun c_1 => ?_)
  · refine zv_iconst hx hb dX2_isWithinLimit_17 ?_
    exact PM_zret hx hb hr hlk dX2_isWithinLimit_18 (by first | rfl | decide) (by omega)
  · refine lv_iload_n hx hb dX2_isWithinLimit_5 rfl (lv_at hl 1 rfl) ?_
    refine lv_aload_n hx hb dX2_isWithinLimit_6 rfl (lv_at hl 0 rfl) ?_
    refine va_get (D := D) (ci := 2) (v := .int (iI lim)) (C := RX2) (T := TX2) (N := 7) hx hb hts uX2 hown hK.1 hP 0 rfl rfl 1 (by decide) (hts _ q_158) (fun _ h9 => h9) rfl dX2_isWithinLimit_7 ?_
    refine zv_icmp_gt hx hb dX2_isWithinLimit_10 (tgt := 17) (by decide) ⟨by omega, by omega⟩ ⟨by omega, by omega⟩ (fun c_2 => ?_) (fun c_2 => ?_)
    · refine zv_iconst hx hb dX2_isWithinLimit_17 ?_
      exact PM_zret hx hb hr hlk dX2_isWithinLimit_18 (by first | rfl | decide) (by omega)
    · refine zv_iconst hx hb dX2_isWithinLimit_13 ?_
      refine lv_goto (tgt := 18) hx hb dX2_isWithinLimit_14 (by decide) ?_
      exact PM_zret hx hb hr hlk dX2_isWithinLimit_18 (by first | rfl | decide) (by omega)
set_option maxRecDepth 100000 in
set_option maxHeartbeats 4000000 in
theorem c_X2_afterStep (l : Launch) (D : va_G) (cI cJ : ClassId) (tt fl s1 s2 pn d1 r1 : Nat) (lim bs P sm C R np c1 : Int) (gn g1 : Nat → Int) (N L : Int → Int) (z d : Int) (hF : FlOK C R np N gn) (hL : LenOK L g1) (hlm : 1 ≤ lim ∧ lim ≤ 60) (hz0 : 0 ≤ z) (hz1 : z < 16807) (hd0 : 0 ≤ d) (hd1 : d ≤ 3) (hpr : z / 343 % 7 < R) : PM l yX2_afterStep (.code yX2_afterStep cX2_afterStep 4 (some .int)) 5 [.ref tt, .int (iI z), .int (iI d)] D cI cJ [(tt, .inr (2, [.ref fl, .int (iI lim), .ref s1, .ref s2, .int (iI bs), .int (iI P), .int (iI sm)])), (fl, .inr (0, [.int (iI C), .int (iI R), .ref pn, .int (iI np)])), (pn, .inl (cI, 49, .inl (aI gn))), (s1, .inr (1, [.ref d1, .ref r1, .int (iI c1)])), (d1, .inl (cI, 16807, .inl (aI g1)))] (fun r => r = astZ C R N L lim z d) := by
  obtain ⟨hC1, hC2, hR1, hR2, hp1, hp2, -, -⟩ := id hF
  refine PM_of (by decide) rfl (Nat.le_of_ble_eq_true rfl) (fun p e s m below meth c ls hx hb hr hts hown hlk hml hK hP hl => ?_)
  have hl : lv_has ls 4 [(0, .ref tt), (1, .int (iI z)), (2, .int (iI d))] := hl
  refine lv_aload_n hx hb dX2_afterStep_0 rfl (lv_at hl 0 rfl) ?_
  refine va_get (D := D) (ci := 2) (v := .ref fl) (C := RX2) (T := TX2) (N := 7) hx hb hts uX2 hown hK.1 hP 0 rfl rfl 0 (by decide) (hts _ q_157) (fun _ h9 => h9) rfl dX2_afterStep_1 ?_
  refine lv_iload_n hx hb dX2_afterStep_4 rfl (lv_at hl 1 rfl) ?_
  refine lv_iload_n hx hb dX2_afterStep_5 rfl (lv_at hl 2 rfl) ?_
  refine zc_V (As := [.int (iI z), .int (iI d)]) (rest := []) (ws := [(tt, .inr (2, [.ref fl, .int (iI lim), .ref s1, .ref s2, .int (iI bs), .int (iI P), .int (iI sm)])), (fl, .inr (0, [.int (iI C), .int (iI R), .ref pn, .int (iI np)])), (pn, .inl (cI, 49, .inl (aI gn))), (s1, .inr (1, [.ref d1, .ref r1, .int (iI c1)])), (d1, .inl (cI, 16807, .inl (aI g1)))]) (n := 2) hx hb (hml.trans hl.1.symm) hts hown hK hP (c_X0_after l D cI cJ fl pn C R np gn N z d hF (by omega) (by omega) (by omega) (by omega) (by omega)) (gd_V q_97 q_98 q_99 q_3 q_100) (by decide +kernel) rfl ⟨Nat.le_of_ble_eq_true rfl, Nat.le_of_ble_eq_true rfl⟩ ⟨Nat.zero_le _, Nat.zero_le _⟩ [1, 2] rfl 1 (ci := 0) rfl rfl rfl rfl (Nat.le_of_ble_eq_true rfl) dX2_afterStep_6 (fun r_1 hr_1 => ?_)
  subst hr_1
  refine lv_istore_n (lv' := [(3, .int (iI (aftZ C R N z d))), (0, .ref tt), (1, .int (iI z)), (2, .int (iI d))]) hx hb dX2_afterStep_9 rfl hl (by decide) rfl (fun ls hl => ?_)
  refine lv_aload_n hx hb dX2_afterStep_10 rfl (lv_at hl 1 rfl) ?_
  refine lv_aload_n hx hb dX2_afterStep_11 rfl (lv_at hl 1 rfl) ?_
  refine va_get (D := D) (ci := 2) (v := .ref s1) (C := RX2) (T := TX2) (N := 7) hx hb hts uX2 hown hK.1 hP 0 rfl rfl 2 (by decide) (hts _ q_159) (fun _ h9 => h9) rfl dX2_afterStep_12 ?_
  have hab := aftZ_b hF (z := z) (d := d) (by omega) (by omega) (by omega)
  have hLb := hL.b (aftZ C R N z d)
  refine lv_iload_n hx hb dX2_afterStep_15 rfl (lv_at hl 0 rfl) ?_
  refine zc_V (As := [.int (iI (aftZ C R N z d))]) (rest := [.ref tt]) (ws := [(tt, .inr (2, [.ref fl, .int (iI lim), .ref s1, .ref s2, .int (iI bs), .int (iI P), .int (iI sm)])), (fl, .inr (0, [.int (iI C), .int (iI R), .ref pn, .int (iI np)])), (pn, .inl (cI, 49, .inl (aI gn))), (s1, .inr (1, [.ref d1, .ref r1, .int (iI c1)])), (d1, .inl (cI, 16807, .inl (aI g1)))]) (n := 1) hx hb (hml.trans hl.1.symm) hts hown hK hP (c_X1_distanceOf l D cI cJ s1 d1 r1 c1 g1 L (aftZ C R N z d) hL (by omega) (by omega)) (gd_V q_202 q_154 q_155 q_2 q_156) (by decide +kernel) rfl ⟨Nat.le_of_ble_eq_true rfl, Nat.le_of_ble_eq_true rfl⟩ ⟨Nat.zero_le _, Nat.zero_le _⟩ [3, 4] rfl 3 (ci := 1) rfl rfl rfl rfl (Nat.le_of_ble_eq_true rfl) dX2_afterStep_16 (fun r_2 hr_2 => ?_)
  subst hr_2
  refine zc_V (As := [.int (iI (L (aftZ C R N z d)))]) (rest := []) (ws := [(tt, .inr (2, [.ref fl, .int (iI lim), .ref s1, .ref s2, .int (iI bs), .int (iI P), .int (iI sm)])), (fl, .inr (0, [.int (iI C), .int (iI R), .ref pn, .int (iI np)])), (pn, .inl (cI, 49, .inl (aI gn))), (s1, .inr (1, [.ref d1, .ref r1, .int (iI c1)])), (d1, .inl (cI, 16807, .inl (aI g1)))]) (n := 1) hx hb (hml.trans hl.1.symm) hts hown hK hP (c_X2_isWithinLimit l D cI cJ tt fl s1 s2 pn d1 r1 lim bs P sm C R np c1 gn g1 N L (L (aftZ C R N z d)) hF hL hlm (by omega) (by omega)) (gd_V q_228 q_230 q_1008 q_1 q_231) (by decide +kernel) rfl ⟨Nat.le_of_ble_eq_true rfl, Nat.le_of_ble_eq_true rfl⟩ ⟨Nat.zero_le _, Nat.zero_le _⟩ [0, 1, 2, 3, 4] rfl 0 (ci := 2) rfl rfl rfl rfl (Nat.le_of_ble_eq_true rfl) dX2_afterStep_19 (fun r_3 hr_3 => ?_)
  refine zv_if_eq hx hb dX2_afterStep_22 (tgt := 29) (by decide) ⟨by omega, by omega⟩ (fun c_4 => ?_) (fun c_4 => ?_)
  · refine zv_iconst hx hb dX2_afterStep_29 ?_
    exact PM_iret hx hb hr hlk dX2_afterStep_30 (by unfold astZ; first | rw [if_pos (by omega)] | rw [if_neg (by omega)])
  · refine lv_iload_n hx hb dX2_afterStep_25 rfl (lv_at hl 0 rfl) ?_
    refine lv_goto (tgt := 30) hx hb dX2_afterStep_26 (by decide) ?_
    exact PM_iret hx hb hr hlk dX2_afterStep_30 (by unfold astZ; first | rw [if_pos (by omega)] | rw [if_neg (by omega)])
set_option maxRecDepth 100000 in
set_option maxHeartbeats 4000000 in
theorem c_X2_cableDirection (l : Launch) (D : va_G) (cI cJ : ClassId) (tt fl s1 s2 pn d1 r1 : Nat) (lim bs P sm C R np c1 : Int) (gn g1 : Nat → Int) (N L : Int → Int) (z : Int) (hF : FlOK C R np N gn) (hL : LenOK L g1) (hlm : 1 ≤ lim ∧ lim ≤ 60) (hz0 : 0 ≤ z) (hz1 : z < 16807) (hpr : z / 343 % 7 < R) : PM l yX2_cableDirection (.code yX2_cableDirection cX2_cableDirection 4 (some .int)) 5 [.ref tt, .int (iI z)] D cI cJ [(tt, .inr (2, [.ref fl, .int (iI lim), .ref s1, .ref s2, .int (iI bs), .int (iI P), .int (iI sm)])), (fl, .inr (0, [.int (iI C), .int (iI R), .ref pn, .int (iI np)])), (pn, .inl (cI, 49, .inl (aI gn))), (s1, .inr (1, [.ref d1, .ref r1, .int (iI c1)])), (d1, .inl (cI, 16807, .inl (aI g1)))] (fun r => r = cdZ C R N L z) := by
  obtain ⟨hC1, hC2, hR1, hR2, hp1, hp2, -, -⟩ := id hF
  have hLz := hL.b z
  have hab0 := aftZ_b hF (z := z) (d := 0) (by omega) (by omega) (by omega)
  have hLb0 := hL.b (aftZ C R N z 0)
  have hab1 := aftZ_b hF (z := z) (d := 1) (by omega) (by omega) (by omega)
  have hLb1 := hL.b (aftZ C R N z 1)
  have hab2 := aftZ_b hF (z := z) (d := 2) (by omega) (by omega) (by omega)
  have hLb2 := hL.b (aftZ C R N z 2)
  have hab3 := aftZ_b hF (z := z) (d := 3) (by omega) (by omega) (by omega)
  have hLb3 := hL.b (aftZ C R N z 3)
  refine PM_of (by decide) rfl (Nat.le_of_ble_eq_true rfl) (fun p e s m below meth c ls hx hb hr hts hown hlk hml hK hP hl => ?_)
  have hl : lv_has ls 4 [(0, .ref tt), (1, .int (iI z))] := hl
  refine lv_aload_n hx hb dX2_cableDirection_0 rfl (lv_at hl 0 rfl) ?_
  refine va_get (D := D) (ci := 2) (v := .ref s1) (C := RX2) (T := TX2) (N := 7) hx hb hts uX2 hown hK.1 hP 0 rfl rfl 2 (by decide) (hts _ q_159) (fun _ h9 => h9) rfl dX2_cableDirection_1 ?_
  refine lv_iload_n hx hb dX2_cableDirection_4 rfl (lv_at hl 1 rfl) ?_
  refine zc_V (As := [.int (iI z)]) (rest := []) (ws := [(tt, .inr (2, [.ref fl, .int (iI lim), .ref s1, .ref s2, .int (iI bs), .int (iI P), .int (iI sm)])), (fl, .inr (0, [.int (iI C), .int (iI R), .ref pn, .int (iI np)])), (pn, .inl (cI, 49, .inl (aI gn))), (s1, .inr (1, [.ref d1, .ref r1, .int (iI c1)])), (d1, .inl (cI, 16807, .inl (aI g1)))]) (n := 1) hx hb (hml.trans hl.1.symm) hts hown hK hP (c_X1_distanceOf l D cI cJ s1 d1 r1 c1 g1 L z hL (by omega) (by omega)) (gd_V q_202 q_154 q_155 q_2 q_156) (by decide +kernel) rfl ⟨Nat.le_of_ble_eq_true rfl, Nat.le_of_ble_eq_true rfl⟩ ⟨Nat.zero_le _, Nat.zero_le _⟩ [3, 4] rfl 3 (ci := 1) rfl rfl rfl rfl (Nat.le_of_ble_eq_true rfl) dX2_cableDirection_5 (fun r_1 hr_1 => ?_)
  subst hr_1
  refine lv_istore_n (lv' := [(2, .int (iI (L z))), (0, .ref tt), (1, .int (iI z))]) hx hb dX2_cableDirection_8 rfl hl (by decide) rfl (fun ls hl => ?_)
  refine lv_iload_n hx hb dX2_cableDirection_9 rfl (lv_at hl 0 rfl) ?_
  refine zv_iconst hx hb dX2_cableDirection_10 ?_
  refine zv_icmp_ge hx hb dX2_cableDirection_11 (tgt := 16) (by decide) ⟨by omega, by omega⟩ ⟨by omega, by omega⟩ (fun c_2 => ?_) (fun c_2 => ?_)
  · refine zv_iconst hx hb dX2_cableDirection_16 ?_
    refine lv_istore_n (lv' := [(3, .int (iI 0)), (2, .int (iI (L z))), (0, .ref tt), (1, .int (iI z))]) hx hb dX2_cableDirection_17 rfl hl (by decide) rfl (fun ls hl => ?_)
    refine lv_iload_n hx hb dX2_cableDirection_18 rfl (lv_at hl 0 rfl) ?_
    refine zv_iconst hx hb dX2_cableDirection_19 ?_
    refine zv_icmp_ge hx hb dX2_cableDirection_20 (tgt := 53) (by decide) ⟨by omega, by omega⟩ ⟨by omega, by omega⟩ (fun c_3 => by exfalso; omega) (fun c_3 => ?_)
    refine lv_aload_n hx hb dX2_cableDirection_23 rfl (lv_at hl 2 rfl) ?_
    refine va_get (D := D) (ci := 2) (v := .ref s1) (C := RX2) (T := TX2) (N := 7) hx hb hts uX2 hown hK.1 hP 0 rfl rfl 2 (by decide) (hts _ q_159) (fun _ h9 => h9) rfl dX2_cableDirection_24 ?_
    refine lv_aload_n hx hb dX2_cableDirection_27 rfl (lv_at hl 2 rfl) ?_
    refine va_get (D := D) (ci := 2) (v := .ref fl) (C := RX2) (T := TX2) (N := 7) hx hb hts uX2 hown hK.1 hP 0 rfl rfl 0 (by decide) (hts _ q_157) (fun _ h9 => h9) rfl dX2_cableDirection_28 ?_
    refine lv_iload_n hx hb dX2_cableDirection_31 rfl (lv_at hl 3 rfl) ?_
    refine lv_iload_n hx hb dX2_cableDirection_32 rfl (lv_at hl 0 rfl) ?_
    refine zc_V (As := [.int (iI z), .int (iI 0)]) (rest := [.ref s1]) (ws := [(tt, .inr (2, [.ref fl, .int (iI lim), .ref s1, .ref s2, .int (iI bs), .int (iI P), .int (iI sm)])), (fl, .inr (0, [.int (iI C), .int (iI R), .ref pn, .int (iI np)])), (pn, .inl (cI, 49, .inl (aI gn))), (s1, .inr (1, [.ref d1, .ref r1, .int (iI c1)])), (d1, .inl (cI, 16807, .inl (aI g1)))]) (n := 2) hx hb (hml.trans hl.1.symm) hts hown hK hP (c_X0_after l D cI cJ fl pn C R np gn N z 0 hF (by omega) (by omega) (by omega) (by omega) (by omega)) (gd_V q_97 q_98 q_99 q_3 q_100) (by decide +kernel) rfl ⟨Nat.le_of_ble_eq_true rfl, Nat.le_of_ble_eq_true rfl⟩ ⟨Nat.zero_le _, Nat.zero_le _⟩ [1, 2] rfl 1 (ci := 0) rfl rfl rfl rfl (Nat.le_of_ble_eq_true rfl) dX2_cableDirection_33 (fun r_4 hr_4 => ?_)
    subst hr_4
    refine zc_V (As := [.int (iI (aftZ C R N z 0))]) (rest := []) (ws := [(tt, .inr (2, [.ref fl, .int (iI lim), .ref s1, .ref s2, .int (iI bs), .int (iI P), .int (iI sm)])), (fl, .inr (0, [.int (iI C), .int (iI R), .ref pn, .int (iI np)])), (pn, .inl (cI, 49, .inl (aI gn))), (s1, .inr (1, [.ref d1, .ref r1, .int (iI c1)])), (d1, .inl (cI, 16807, .inl (aI g1)))]) (n := 1) hx hb (hml.trans hl.1.symm) hts hown hK hP (c_X1_distanceOf l D cI cJ s1 d1 r1 c1 g1 L (aftZ C R N z 0) hL (by omega) (by omega)) (gd_V q_202 q_154 q_155 q_2 q_156) (by decide +kernel) rfl ⟨Nat.le_of_ble_eq_true rfl, Nat.le_of_ble_eq_true rfl⟩ ⟨Nat.zero_le _, Nat.zero_le _⟩ [3, 4] rfl 3 (ci := 1) rfl rfl rfl rfl (Nat.le_of_ble_eq_true rfl) dX2_cableDirection_36 (fun r_5 hr_5 => ?_)
    subst hr_5
    refine lv_iload_n hx hb dX2_cableDirection_39 rfl (lv_at hl 1 rfl) ?_
    refine zv_iconst hx hb dX2_cableDirection_40 ?_
    refine zv_isub hx hb dX2_cableDirection_41 ?_
    refine zv_icmp_ne hx hb dX2_cableDirection_42 (tgt := 47) (by decide) ⟨by omega, by omega⟩ ⟨by omega, by omega⟩ (fun c_6 => ?_) (fun c_6 => ?_)
    · refine zv_iinc (k := 0) (lv' := [(3, .int (iI 1)), (2, .int (iI (L z))), (0, .ref tt), (1, .int (iI z))]) hx hb dX2_cableDirection_47 hl rfl (by decide) rfl (fun ls hl => ?_)
      refine lv_goto (tgt := 18) hx hb dX2_cableDirection_50 (by decide) ?_
      refine lv_iload_n hx hb dX2_cableDirection_18 rfl (lv_at hl 0 rfl) ?_
      refine zv_iconst hx hb dX2_cableDirection_19 ?_
      refine zv_icmp_ge hx hb dX2_cableDirection_20 (tgt := 53) (by decide) ⟨by omega, by omega⟩ ⟨by omega, by omega⟩ (fun c_7 => by exfalso; omega) (fun c_7 => ?_)
      refine lv_aload_n hx hb dX2_cableDirection_23 rfl (lv_at hl 2 rfl) ?_
      refine va_get (D := D) (ci := 2) (v := .ref s1) (C := RX2) (T := TX2) (N := 7) hx hb hts uX2 hown hK.1 hP 0 rfl rfl 2 (by decide) (hts _ q_159) (fun _ h9 => h9) rfl dX2_cableDirection_24 ?_
      refine lv_aload_n hx hb dX2_cableDirection_27 rfl (lv_at hl 2 rfl) ?_
      refine va_get (D := D) (ci := 2) (v := .ref fl) (C := RX2) (T := TX2) (N := 7) hx hb hts uX2 hown hK.1 hP 0 rfl rfl 0 (by decide) (hts _ q_157) (fun _ h9 => h9) rfl dX2_cableDirection_28 ?_
      refine lv_iload_n hx hb dX2_cableDirection_31 rfl (lv_at hl 3 rfl) ?_
      refine lv_iload_n hx hb dX2_cableDirection_32 rfl (lv_at hl 0 rfl) ?_
      refine zc_V (As := [.int (iI z), .int (iI 1)]) (rest := [.ref s1]) (ws := [(tt, .inr (2, [.ref fl, .int (iI lim), .ref s1, .ref s2, .int (iI bs), .int (iI P), .int (iI sm)])), (fl, .inr (0, [.int (iI C), .int (iI R), .ref pn, .int (iI np)])), (pn, .inl (cI, 49, .inl (aI gn))), (s1, .inr (1, [.ref d1, .ref r1, .int (iI c1)])), (d1, .inl (cI, 16807, .inl (aI g1)))]) (n := 2) hx hb (hml.trans hl.1.symm) hts hown hK hP (c_X0_after l D cI cJ fl pn C R np gn N z 1 hF (by omega) (by omega) (by omega) (by omega) (by omega)) (gd_V q_97 q_98 q_99 q_3 q_100) (by decide +kernel) rfl ⟨Nat.le_of_ble_eq_true rfl, Nat.le_of_ble_eq_true rfl⟩ ⟨Nat.zero_le _, Nat.zero_le _⟩ [1, 2] rfl 1 (ci := 0) rfl rfl rfl rfl (Nat.le_of_ble_eq_true rfl) dX2_cableDirection_33 (fun r_8 hr_8 => ?_)
      subst hr_8
      refine zc_V (As := [.int (iI (aftZ C R N z 1))]) (rest := []) (ws := [(tt, .inr (2, [.ref fl, .int (iI lim), .ref s1, .ref s2, .int (iI bs), .int (iI P), .int (iI sm)])), (fl, .inr (0, [.int (iI C), .int (iI R), .ref pn, .int (iI np)])), (pn, .inl (cI, 49, .inl (aI gn))), (s1, .inr (1, [.ref d1, .ref r1, .int (iI c1)])), (d1, .inl (cI, 16807, .inl (aI g1)))]) (n := 1) hx hb (hml.trans hl.1.symm) hts hown hK hP (c_X1_distanceOf l D cI cJ s1 d1 r1 c1 g1 L (aftZ C R N z 1) hL (by omega) (by omega)) (gd_V q_202 q_154 q_155 q_2 q_156) (by decide +kernel) rfl ⟨Nat.le_of_ble_eq_true rfl, Nat.le_of_ble_eq_true rfl⟩ ⟨Nat.zero_le _, Nat.zero_le _⟩ [3, 4] rfl 3 (ci := 1) rfl rfl rfl rfl (Nat.le_of_ble_eq_true rfl) dX2_cableDirection_36 (fun r_9 hr_9 => ?_)
      subst hr_9
      refine lv_iload_n hx hb dX2_cableDirection_39 rfl (lv_at hl 1 rfl) ?_
      refine zv_iconst hx hb dX2_cableDirection_40 ?_
      refine zv_isub hx hb dX2_cableDirection_41 ?_
      refine zv_icmp_ne hx hb dX2_cableDirection_42 (tgt := 47) (by decide) ⟨by omega, by omega⟩ ⟨by omega, by omega⟩ (fun c_10 => ?_) (fun c_10 => ?_)
      · refine zv_iinc (k := 0) (lv' := [(3, .int (iI 2)), (2, .int (iI (L z))), (0, .ref tt), (1, .int (iI z))]) hx hb dX2_cableDirection_47 hl rfl (by decide) rfl (fun ls hl => ?_)
        refine lv_goto (tgt := 18) hx hb dX2_cableDirection_50 (by decide) ?_
        refine lv_iload_n hx hb dX2_cableDirection_18 rfl (lv_at hl 0 rfl) ?_
        refine zv_iconst hx hb dX2_cableDirection_19 ?_
        refine zv_icmp_ge hx hb dX2_cableDirection_20 (tgt := 53) (by decide) ⟨by omega, by omega⟩ ⟨by omega, by omega⟩ (fun c_11 => by exfalso; omega) (fun c_11 => ?_)
        refine lv_aload_n hx hb dX2_cableDirection_23 rfl (lv_at hl 2 rfl) ?_
        refine va_get (D := D) (ci := 2) (v := .ref s1) (C := RX2) (T := TX2) (N := 7) hx hb hts uX2 hown hK.1 hP 0 rfl rfl 2 (by decide) (hts _ q_159) (fun _ h9 => h9) rfl dX2_cableDirection_24 ?_
        refine lv_aload_n hx hb dX2_cableDirection_27 rfl (lv_at hl 2 rfl) ?_
        refine va_get (D := D) (ci := 2) (v := .ref fl) (C := RX2) (T := TX2) (N := 7) hx hb hts uX2 hown hK.1 hP 0 rfl rfl 0 (by decide) (hts _ q_157) (fun _ h9 => h9) rfl dX2_cableDirection_28 ?_
        refine lv_iload_n hx hb dX2_cableDirection_31 rfl (lv_at hl 3 rfl) ?_
        refine lv_iload_n hx hb dX2_cableDirection_32 rfl (lv_at hl 0 rfl) ?_
        refine zc_V (As := [.int (iI z), .int (iI 2)]) (rest := [.ref s1]) (ws := [(tt, .inr (2, [.ref fl, .int (iI lim), .ref s1, .ref s2, .int (iI bs), .int (iI P), .int (iI sm)])), (fl, .inr (0, [.int (iI C), .int (iI R), .ref pn, .int (iI np)])), (pn, .inl (cI, 49, .inl (aI gn))), (s1, .inr (1, [.ref d1, .ref r1, .int (iI c1)])), (d1, .inl (cI, 16807, .inl (aI g1)))]) (n := 2) hx hb (hml.trans hl.1.symm) hts hown hK hP (c_X0_after l D cI cJ fl pn C R np gn N z 2 hF (by omega) (by omega) (by omega) (by omega) (by omega)) (gd_V q_97 q_98 q_99 q_3 q_100) (by decide +kernel) rfl ⟨Nat.le_of_ble_eq_true rfl, Nat.le_of_ble_eq_true rfl⟩ ⟨Nat.zero_le _, Nat.zero_le _⟩ [1, 2] rfl 1 (ci := 0) rfl rfl rfl rfl (Nat.le_of_ble_eq_true rfl) dX2_cableDirection_33 (fun r_12 hr_12 => ?_)
        subst hr_12
        refine zc_V (As := [.int (iI (aftZ C R N z 2))]) (rest := []) (ws := [(tt, .inr (2, [.ref fl, .int (iI lim), .ref s1, .ref s2, .int (iI bs), .int (iI P), .int (iI sm)])), (fl, .inr (0, [.int (iI C), .int (iI R), .ref pn, .int (iI np)])), (pn, .inl (cI, 49, .inl (aI gn))), (s1, .inr (1, [.ref d1, .ref r1, .int (iI c1)])), (d1, .inl (cI, 16807, .inl (aI g1)))]) (n := 1) hx hb (hml.trans hl.1.symm) hts hown hK hP (c_X1_distanceOf l D cI cJ s1 d1 r1 c1 g1 L (aftZ C R N z 2) hL (by omega) (by omega)) (gd_V q_202 q_154 q_155 q_2 q_156) (by decide +kernel) rfl ⟨Nat.le_of_ble_eq_true rfl, Nat.le_of_ble_eq_true rfl⟩ ⟨Nat.zero_le _, Nat.zero_le _⟩ [3, 4] rfl 3 (ci := 1) rfl rfl rfl rfl (Nat.le_of_ble_eq_true rfl) dX2_cableDirection_36 (fun r_13 hr_13 => ?_)
        subst hr_13
        refine lv_iload_n hx hb dX2_cableDirection_39 rfl (lv_at hl 1 rfl) ?_
        refine zv_iconst hx hb dX2_cableDirection_40 ?_
        refine zv_isub hx hb dX2_cableDirection_41 ?_
        refine zv_icmp_ne hx hb dX2_cableDirection_42 (tgt := 47) (by decide) ⟨by omega, by omega⟩ ⟨by omega, by omega⟩ (fun c_14 => ?_) (fun c_14 => ?_)
        · refine zv_iinc (k := 0) (lv' := [(3, .int (iI 3)), (2, .int (iI (L z))), (0, .ref tt), (1, .int (iI z))]) hx hb dX2_cableDirection_47 hl rfl (by decide) rfl (fun ls hl => ?_)
          refine lv_goto (tgt := 18) hx hb dX2_cableDirection_50 (by decide) ?_
          refine lv_iload_n hx hb dX2_cableDirection_18 rfl (lv_at hl 0 rfl) ?_
          refine zv_iconst hx hb dX2_cableDirection_19 ?_
          refine zv_icmp_ge hx hb dX2_cableDirection_20 (tgt := 53) (by decide) ⟨by omega, by omega⟩ ⟨by omega, by omega⟩ (fun c_15 => by exfalso; omega) (fun c_15 => ?_)
          refine lv_aload_n hx hb dX2_cableDirection_23 rfl (lv_at hl 2 rfl) ?_
          refine va_get (D := D) (ci := 2) (v := .ref s1) (C := RX2) (T := TX2) (N := 7) hx hb hts uX2 hown hK.1 hP 0 rfl rfl 2 (by decide) (hts _ q_159) (fun _ h9 => h9) rfl dX2_cableDirection_24 ?_
          refine lv_aload_n hx hb dX2_cableDirection_27 rfl (lv_at hl 2 rfl) ?_
          refine va_get (D := D) (ci := 2) (v := .ref fl) (C := RX2) (T := TX2) (N := 7) hx hb hts uX2 hown hK.1 hP 0 rfl rfl 0 (by decide) (hts _ q_157) (fun _ h9 => h9) rfl dX2_cableDirection_28 ?_
          refine lv_iload_n hx hb dX2_cableDirection_31 rfl (lv_at hl 3 rfl) ?_
          refine lv_iload_n hx hb dX2_cableDirection_32 rfl (lv_at hl 0 rfl) ?_
          refine zc_V (As := [.int (iI z), .int (iI 3)]) (rest := [.ref s1]) (ws := [(tt, .inr (2, [.ref fl, .int (iI lim), .ref s1, .ref s2, .int (iI bs), .int (iI P), .int (iI sm)])), (fl, .inr (0, [.int (iI C), .int (iI R), .ref pn, .int (iI np)])), (pn, .inl (cI, 49, .inl (aI gn))), (s1, .inr (1, [.ref d1, .ref r1, .int (iI c1)])), (d1, .inl (cI, 16807, .inl (aI g1)))]) (n := 2) hx hb (hml.trans hl.1.symm) hts hown hK hP (c_X0_after l D cI cJ fl pn C R np gn N z 3 hF (by omega) (by omega) (by omega) (by omega) (by omega)) (gd_V q_97 q_98 q_99 q_3 q_100) (by decide +kernel) rfl ⟨Nat.le_of_ble_eq_true rfl, Nat.le_of_ble_eq_true rfl⟩ ⟨Nat.zero_le _, Nat.zero_le _⟩ [1, 2] rfl 1 (ci := 0) rfl rfl rfl rfl (Nat.le_of_ble_eq_true rfl) dX2_cableDirection_33 (fun r_16 hr_16 => ?_)
          subst hr_16
          refine zc_V (As := [.int (iI (aftZ C R N z 3))]) (rest := []) (ws := [(tt, .inr (2, [.ref fl, .int (iI lim), .ref s1, .ref s2, .int (iI bs), .int (iI P), .int (iI sm)])), (fl, .inr (0, [.int (iI C), .int (iI R), .ref pn, .int (iI np)])), (pn, .inl (cI, 49, .inl (aI gn))), (s1, .inr (1, [.ref d1, .ref r1, .int (iI c1)])), (d1, .inl (cI, 16807, .inl (aI g1)))]) (n := 1) hx hb (hml.trans hl.1.symm) hts hown hK hP (c_X1_distanceOf l D cI cJ s1 d1 r1 c1 g1 L (aftZ C R N z 3) hL (by omega) (by omega)) (gd_V q_202 q_154 q_155 q_2 q_156) (by decide +kernel) rfl ⟨Nat.le_of_ble_eq_true rfl, Nat.le_of_ble_eq_true rfl⟩ ⟨Nat.zero_le _, Nat.zero_le _⟩ [3, 4] rfl 3 (ci := 1) rfl rfl rfl rfl (Nat.le_of_ble_eq_true rfl) dX2_cableDirection_36 (fun r_17 hr_17 => ?_)
          subst hr_17
          refine lv_iload_n hx hb dX2_cableDirection_39 rfl (lv_at hl 1 rfl) ?_
          refine zv_iconst hx hb dX2_cableDirection_40 ?_
          refine zv_isub hx hb dX2_cableDirection_41 ?_
          refine zv_icmp_ne hx hb dX2_cableDirection_42 (tgt := 47) (by decide) ⟨by omega, by omega⟩ ⟨by omega, by omega⟩ (fun c_18 => ?_) (fun c_18 => ?_)
          · refine zv_iinc (k := 0) (lv' := [(3, .int (iI 4)), (2, .int (iI (L z))), (0, .ref tt), (1, .int (iI z))]) hx hb dX2_cableDirection_47 hl rfl (by decide) rfl (fun ls hl => ?_)
            refine lv_goto (tgt := 18) hx hb dX2_cableDirection_50 (by decide) ?_
            refine lv_iload_n hx hb dX2_cableDirection_18 rfl (lv_at hl 0 rfl) ?_
            refine zv_iconst hx hb dX2_cableDirection_19 ?_
            refine zv_icmp_ge hx hb dX2_cableDirection_20 (tgt := 53) (by decide) ⟨by omega, by omega⟩ ⟨by omega, by omega⟩ (fun c_19 => ?_) (fun c_19 => by exfalso; omega)
            refine zv_iconst hx hb dX2_cableDirection_53 ?_
            exact PM_iret hx hb hr hlk dX2_cableDirection_54 (by unfold cdZ; first | rw [if_pos (by omega)] | rw [if_neg (by omega), if_pos (by omega)] | rw [if_neg (by omega), if_neg (by omega), if_pos (by omega)] | rw [if_neg (by omega), if_neg (by omega), if_neg (by omega), if_pos (by omega)] | rw [if_neg (by omega), if_neg (by omega), if_neg (by omega), if_neg (by omega), if_pos (by omega)] | rw [if_neg (by omega), if_neg (by omega), if_neg (by omega), if_neg (by omega), if_neg (by omega)])
          · refine lv_iload_n hx hb dX2_cableDirection_45 rfl (lv_at hl 0 rfl) ?_
            exact PM_iret hx hb hr hlk dX2_cableDirection_46 (by unfold cdZ; first | rw [if_pos (by omega)] | rw [if_neg (by omega), if_pos (by omega)] | rw [if_neg (by omega), if_neg (by omega), if_pos (by omega)] | rw [if_neg (by omega), if_neg (by omega), if_neg (by omega), if_pos (by omega)] | rw [if_neg (by omega), if_neg (by omega), if_neg (by omega), if_neg (by omega), if_pos (by omega)] | rw [if_neg (by omega), if_neg (by omega), if_neg (by omega), if_neg (by omega), if_neg (by omega)])
        · refine lv_iload_n hx hb dX2_cableDirection_45 rfl (lv_at hl 0 rfl) ?_
          exact PM_iret hx hb hr hlk dX2_cableDirection_46 (by unfold cdZ; first | rw [if_pos (by omega)] | rw [if_neg (by omega), if_pos (by omega)] | rw [if_neg (by omega), if_neg (by omega), if_pos (by omega)] | rw [if_neg (by omega), if_neg (by omega), if_neg (by omega), if_pos (by omega)] | rw [if_neg (by omega), if_neg (by omega), if_neg (by omega), if_neg (by omega), if_pos (by omega)] | rw [if_neg (by omega), if_neg (by omega), if_neg (by omega), if_neg (by omega), if_neg (by omega)])
      · refine lv_iload_n hx hb dX2_cableDirection_45 rfl (lv_at hl 0 rfl) ?_
        exact PM_iret hx hb hr hlk dX2_cableDirection_46 (by unfold cdZ; first | rw [if_pos (by omega)] | rw [if_neg (by omega), if_pos (by omega)] | rw [if_neg (by omega), if_neg (by omega), if_pos (by omega)] | rw [if_neg (by omega), if_neg (by omega), if_neg (by omega), if_pos (by omega)] | rw [if_neg (by omega), if_neg (by omega), if_neg (by omega), if_neg (by omega), if_pos (by omega)] | rw [if_neg (by omega), if_neg (by omega), if_neg (by omega), if_neg (by omega), if_neg (by omega)])
    · refine lv_iload_n hx hb dX2_cableDirection_45 rfl (lv_at hl 0 rfl) ?_
      exact PM_iret hx hb hr hlk dX2_cableDirection_46 (by unfold cdZ; first | rw [if_pos (by omega)] | rw [if_neg (by omega), if_pos (by omega)] | rw [if_neg (by omega), if_neg (by omega), if_pos (by omega)] | rw [if_neg (by omega), if_neg (by omega), if_neg (by omega), if_pos (by omega)] | rw [if_neg (by omega), if_neg (by omega), if_neg (by omega), if_neg (by omega), if_pos (by omega)] | rw [if_neg (by omega), if_neg (by omega), if_neg (by omega), if_neg (by omega), if_neg (by omega)])
  · refine zv_iconst hx hb dX2_cableDirection_14 ?_
    exact PM_iret hx hb hr hlk dX2_cableDirection_15 (by unfold cdZ; first | rw [if_pos (by omega)] | rw [if_neg (by omega), if_pos (by omega)] | rw [if_neg (by omega), if_neg (by omega), if_pos (by omega)] | rw [if_neg (by omega), if_neg (by omega), if_neg (by omega), if_pos (by omega)] | rw [if_neg (by omega), if_neg (by omega), if_neg (by omega), if_neg (by omega), if_pos (by omega)] | rw [if_neg (by omega), if_neg (by omega), if_neg (by omega), if_neg (by omega), if_neg (by omega)])
set_option maxRecDepth 100000 in
set_option maxHeartbeats 4000000 in
theorem c_X2_alongCable (l : Launch) (D : va_G) (cI cJ : ClassId) (tt fl s1 s2 pn d1 r1 : Nat) (lim bs P sm C R np c1 : Int) (gn g1 : Nat → Int) (N L : Int → Int) (k : Int) (hF : FlOK C R np N gn) (hL : LenOK L g1) (hlm : 1 ≤ lim ∧ lim ≤ 60) (hA : AlOK C R N L P k) (hk0 : 0 ≤ k) (hk1 : k ≤ 20000) : PM l yX2_alongCable (.code yX2_alongCable cX2_alongCable 4 (some .int)) 6 [.ref tt, .int (iI k)] D cI cJ [(tt, .inr (2, [.ref fl, .int (iI lim), .ref s1, .ref s2, .int (iI bs), .int (iI P), .int (iI sm)])), (fl, .inr (0, [.int (iI C), .int (iI R), .ref pn, .int (iI np)])), (pn, .inl (cI, 49, .inl (aI gn))), (s1, .inr (1, [.ref d1, .ref r1, .int (iI c1)])), (d1, .inl (cI, 16807, .inl (aI g1)))] (fun r => r = alZ C R N L P k.toNat) := by
  obtain ⟨hC1, hC2, hR1, hR2, hp1, hp2, -, -⟩ := id hF
  refine PM_of (by decide) rfl (Nat.le_of_ble_eq_true rfl) (fun p e s m below meth c ls hx hb hr hts hown hlk hml hK hP hl => ?_)
  have hl : lv_has ls 4 [(0, .ref tt), (1, .int (iI k))] := hl
  refine lv_aload_n hx hb dX2_alongCable_0 rfl (lv_at hl 0 rfl) ?_
  refine va_get (D := D) (ci := 2) (v := .int (iI P)) (C := RX2) (T := TX2) (N := 7) hx hb hts uX2 hown hK.1 hP 0 rfl rfl 5 (by decide) (hts _ q_162) (fun _ h9 => h9) rfl dX2_alongCable_1 ?_
  refine lv_istore_n (lv' := [(2, .int (iI P)), (0, .ref tt), (1, .int (iI k))]) hx hb dX2_alongCable_4 rfl hl (by decide) rfl (fun ls hl => ?_)
  refine zv_iconst hx hb dX2_alongCable_5 ?_
  refine lv_istore_n (lv' := [(3, .int (iI 0)), (2, .int (iI P)), (0, .ref tt), (1, .int (iI k))]) hx hb dX2_alongCable_6 rfl hl (by decide) rfl (fun ls hl => ?_)
  have loop7 : ∀ (n : Nat) (y i : Int) (j : Nat), (i = (j : Int)) → (i ≤ k) → (y = alZ C R N L P j) → (k - i < (n : Int)) → ∀ ls : Array Slot, lv_has ls 4 [(0, .ref tt), (1, .int (iI k)), (2, .int (iI y)), (3, .int (iI i))] → W p l e (lvl 6) s m [.ref tt, .int (iI k)].toArray below meth c s.heap [] 0 0 (MQ below (PQ (fun r => r = alZ C R N L P k.toNat)) [.ref tt, .int (iI k)].toArray s 0 0 (fun _ => False)) (F0 m 7 ls []) := by
    intro n
    induction n with
    | zero => intro y i j hi hik hy hms; exfalso; omega
    | succ n ih =>
      intro y i j hi hik hy hms ls hl
      refine lv_iload_n hx hb dX2_alongCable_7 rfl (lv_at hl 3 rfl) ?_
      refine lv_iload_n hx hb dX2_alongCable_8 rfl (lv_at hl 1 rfl) ?_
      refine zv_icmp_ge hx hb dX2_alongCable_9 (tgt := 32) (by decide) ⟨by omega, by omega⟩ ⟨by omega, by omega⟩ (fun c_1 => ?_) (fun c_1 => ?_)
      · refine lv_iload_n hx hb dX2_alongCable_32 rfl (lv_at hl 2 rfl) ?_
        exact PM_iret hx hb hr hlk dX2_alongCable_33 (by rw [hy, show k.toNat = j by omega])
      · refine lv_aload_n hx hb dX2_alongCable_12 rfl (lv_at hl 0 rfl) ?_
        refine va_get (D := D) (ci := 2) (v := .ref fl) (C := RX2) (T := TX2) (N := 7) hx hb hts uX2 hown hK.1 hP 0 rfl rfl 0 (by decide) (hts _ q_157) (fun _ h9 => h9) rfl dX2_alongCable_13 ?_
        refine lv_iload_n hx hb dX2_alongCable_16 rfl (lv_at hl 2 rfl) ?_
        obtain ⟨hA1, hA2, hA3⟩ := hA j (by omega)
        rw [← hy] at hA1 hA2 hA3
        obtain ⟨hy0, hy1, hy2⟩ := hA1
        refine lv_aload_n hx hb dX2_alongCable_17 rfl (lv_at hl 0 rfl) ?_
        refine lv_iload_n hx hb dX2_alongCable_18 rfl (lv_at hl 2 rfl) ?_
        refine zc_V (As := [.int (iI y)]) (rest := [.int (iI y), .ref fl]) (ws := [(tt, .inr (2, [.ref fl, .int (iI lim), .ref s1, .ref s2, .int (iI bs), .int (iI P), .int (iI sm)])), (fl, .inr (0, [.int (iI C), .int (iI R), .ref pn, .int (iI np)])), (pn, .inl (cI, 49, .inl (aI gn))), (s1, .inr (1, [.ref d1, .ref r1, .int (iI c1)])), (d1, .inl (cI, 16807, .inl (aI g1)))]) (n := 1) hx hb (hml.trans hl.1.symm) hts hown hK hP (c_X2_cableDirection l D cI cJ tt fl s1 s2 pn d1 r1 lim bs P sm C R np c1 gn g1 N L y hF hL hlm (by omega) (by omega) (by omega)) (gd_V q_216 q_218 q_1006 q_1 q_219) (by decide +kernel) rfl ⟨Nat.le_of_ble_eq_true rfl, Nat.le_of_ble_eq_true rfl⟩ ⟨Nat.zero_le _, Nat.zero_le _⟩ [0, 1, 2, 3, 4] rfl 0 (ci := 2) rfl rfl rfl rfl (Nat.le_of_ble_eq_true rfl) dX2_alongCable_19 (fun r_2 hr_2 => ?_)
        subst hr_2
        refine zc_V (As := [.int (iI y), .int (iI (cdZ C R N L y))]) (rest := []) (ws := [(tt, .inr (2, [.ref fl, .int (iI lim), .ref s1, .ref s2, .int (iI bs), .int (iI P), .int (iI sm)])), (fl, .inr (0, [.int (iI C), .int (iI R), .ref pn, .int (iI np)])), (pn, .inl (cI, 49, .inl (aI gn))), (s1, .inr (1, [.ref d1, .ref r1, .int (iI c1)])), (d1, .inl (cI, 16807, .inl (aI g1)))]) (n := 2) hx hb (hml.trans hl.1.symm) hts hown hK hP (c_X0_after l D cI cJ fl pn C R np gn N y (cdZ C R N L y) hF (by omega) (by omega) (by omega) (by omega) (by omega)) (gd_V q_97 q_98 q_99 q_3 q_100) (by decide +kernel) rfl ⟨Nat.le_of_ble_eq_true rfl, Nat.le_of_ble_eq_true rfl⟩ ⟨Nat.zero_le _, Nat.zero_le _⟩ [1, 2] rfl 1 (ci := 0) rfl rfl rfl rfl (Nat.le_of_ble_eq_true rfl) dX2_alongCable_22 (fun r_3 hr_3 => ?_)
        subst hr_3
        refine lv_istore_n (lv' := [(2, .int (iI (aftZ C R N y (cdZ C R N L y)))), (0, .ref tt), (1, .int (iI k)), (3, .int (iI i))]) hx hb dX2_alongCable_25 rfl hl (by decide) rfl (fun ls hl => ?_)
        refine zv_iinc (k := 3) (lv' := [(3, .int (iI (i + 1))), (2, .int (iI (aftZ C R N y (cdZ C R N L y)))), (0, .ref tt), (1, .int (iI k))]) hx hb dX2_alongCable_26 hl rfl (by decide) rfl (fun ls hl => ?_)
        refine lv_goto (tgt := 7) hx hb dX2_alongCable_29 (by decide) ?_
        exact ih (aftZ C R N y (cdZ C R N L y)) (i + 1) (j + 1) (by omega) (by omega) (by rw [hy]; rfl) (by omega) ls (lv_sub hl [2, 3, 1, 0] rfl)
  exact loop7 (k.toNat + 1) P 0 0 rfl (by omega) rfl (by omega) ls (lv_sub hl [2, 3, 1, 0] rfl)
set_option maxRecDepth 100000 in
set_option maxHeartbeats 4000000 in
theorem c_X2_leastLengthOf (l : Launch) (D : va_G) (cI cJ : ClassId) (tt fl s1 s2 pn d1 r1 : Nat) (lim bs P sm C R np c1 : Int) (gn g1 : Nat → Int) (N L : Int → Int) (q : Int) (hF : FlOK C R np N gn) (hL : LenOK L g1) (hlm : 1 ≤ lim ∧ lim ≤ 60) (hq0 : 0 ≤ q) (hq1 : q < 49) : PM l yX2_leastLengthOf (.code yX2_leastLengthOf cX2_leastLengthOf 5 (some .int)) 2 [.ref tt, .int (iI q)] D cI cJ [(tt, .inr (2, [.ref fl, .int (iI lim), .ref s1, .ref s2, .int (iI bs), .int (iI P), .int (iI sm)])), (fl, .inr (0, [.int (iI C), .int (iI R), .ref pn, .int (iI np)])), (pn, .inl (cI, 49, .inl (aI gn))), (s1, .inr (1, [.ref d1, .ref r1, .int (iI c1)])), (d1, .inl (cI, 16807, .inl (aI g1)))] (fun r => r = lsZ L q) := by
  obtain ⟨hC1, hC2, hR1, hR2, hp1, hp2, -, -⟩ := id hF
  refine PM_of (by decide) rfl (Nat.le_of_ble_eq_true rfl) (fun p e s m below meth c ls hx hb hr hts hown hlk hml hK hP hl => ?_)
  have hl : lv_has ls 5 [(0, .ref tt), (1, .int (iI q))] := hl
  refine zv_iconst hx hb dX2_leastLengthOf_0 ?_
  refine lv_istore_n (lv' := [(2, .int (iI (-1))), (0, .ref tt), (1, .int (iI q))]) hx hb dX2_leastLengthOf_1 rfl hl (by decide) rfl (fun ls hl => ?_)
  refine zv_iconst hx hb dX2_leastLengthOf_2 ?_
  refine lv_istore_n (lv' := [(3, .int (iI 0)), (2, .int (iI (-1))), (0, .ref tt), (1, .int (iI q))]) hx hb dX2_leastLengthOf_3 rfl hl (by decide) rfl (fun ls hl => ?_)
  have loop4 : ∀ (n : Nat) (y i : Int) (j : Nat), (i = (j : Int)) → (i ≤ 343) → (y = lsN L q j) → (343 - i < (n : Int)) → ∀ ls : Array Slot, lv_has ls 5 [(0, .ref tt), (1, .int (iI q)), (2, .int (iI y)), (3, .int (iI i))] → W p l e (lvl 2) s m [.ref tt, .int (iI q)].toArray below meth c s.heap [] 0 0 (MQ below (PQ (fun r => r = lsZ L q)) [.ref tt, .int (iI q)].toArray s 0 0 (fun _ => False)) (F0 m 4 ls []) := by
    intro n
    induction n with
    | zero => intro y i j hi hik hy hms; exfalso; omega
    | succ n ih =>
      intro y i j hi hik hy hms ls hl
      have hyb := lsN_b hL q j
      rw [← hy] at hyb
      have hLb := hL.b (q * 343 + i)
      refine lv_iload_n hx hb dX2_leastLengthOf_4 rfl (lv_at hl 3 rfl) ?_
      refine zv_sipush hx hb dX2_leastLengthOf_5 (by decide) ?_
      refine zv_icmp_ge hx hb dX2_leastLengthOf_8 (tgt := 51) (by decide) ⟨by omega, by omega⟩ ⟨by omega, by omega⟩ (fun c_1 => ?_) (fun c_1 => ?_)
      · refine lv_iload_n hx hb dX2_leastLengthOf_51 rfl (lv_at hl 2 rfl) ?_
        exact PM_iret hx hb hr hlk dX2_leastLengthOf_52 (by rw [hy, show j = 343 by omega]; rfl)
      · refine lv_aload_n hx hb dX2_leastLengthOf_11 rfl (lv_at hl 0 rfl) ?_
        refine va_get (D := D) (ci := 2) (v := .ref s1) (C := RX2) (T := TX2) (N := 7) hx hb hts uX2 hown hK.1 hP 0 rfl rfl 2 (by decide) (hts _ q_159) (fun _ h9 => h9) rfl dX2_leastLengthOf_12 ?_
        refine lv_iload_n hx hb dX2_leastLengthOf_15 rfl (lv_at hl 1 rfl) ?_
        refine lv_iload_n hx hb dX2_leastLengthOf_16 rfl (lv_at hl 3 rfl) ?_
        refine zc_S (As := [.int (iI q), .int (iI i)]) (rest := [.ref s1]) (ws := [(tt, .inr (2, [.ref fl, .int (iI lim), .ref s1, .ref s2, .int (iI bs), .int (iI P), .int (iI sm)])), (fl, .inr (0, [.int (iI C), .int (iI R), .ref pn, .int (iI np)])), (pn, .inl (cI, 49, .inl (aI gn))), (s1, .inr (1, [.ref d1, .ref r1, .int (iI c1)])), (d1, .inl (cI, 16807, .inl (aI g1)))]) (n := 2) hx hb (hml.trans hl.1.symm) hts hown hK hP (c_X2_placeOf l D cI cJ q i) (gd_S q_73 q_74 q_1 q_75) (by decide +kernel) rfl ⟨Nat.le_of_ble_eq_true rfl, Nat.le_of_ble_eq_true rfl⟩ ⟨Nat.zero_le _, Nat.zero_le _⟩ [] rfl rfl (Nat.le_of_ble_eq_true rfl) dX2_leastLengthOf_17 (fun r_2 hr_2 => ?_)
        subst hr_2
        refine zc_V (As := [.int (iI (q * 343 + i))]) (rest := []) (ws := [(tt, .inr (2, [.ref fl, .int (iI lim), .ref s1, .ref s2, .int (iI bs), .int (iI P), .int (iI sm)])), (fl, .inr (0, [.int (iI C), .int (iI R), .ref pn, .int (iI np)])), (pn, .inl (cI, 49, .inl (aI gn))), (s1, .inr (1, [.ref d1, .ref r1, .int (iI c1)])), (d1, .inl (cI, 16807, .inl (aI g1)))]) (n := 1) hx hb (hml.trans hl.1.symm) hts hown hK hP (c_X1_distanceOf l D cI cJ s1 d1 r1 c1 g1 L (q * 343 + i) hL (by omega) (by omega)) (gd_V q_202 q_154 q_155 q_2 q_156) (by decide +kernel) rfl ⟨Nat.le_of_ble_eq_true rfl, Nat.le_of_ble_eq_true rfl⟩ ⟨Nat.zero_le _, Nat.zero_le _⟩ [3, 4] rfl 3 (ci := 1) rfl rfl rfl rfl (Nat.le_of_ble_eq_true rfl) dX2_leastLengthOf_20 (fun r_3 hr_3 => ?_)
        subst hr_3
        refine lv_istore (lv' := [(4, .int (iI (L (q * 343 + i)))), (0, .ref tt), (1, .int (iI q)), (2, .int (iI y)), (3, .int (iI i))]) hx hb dX2_leastLengthOf_23 hl (by decide) rfl (fun ls hl => ?_)
        refine lv_iload hx hb dX2_leastLengthOf_25 (lv_at hl 0 rfl) ?_
        refine zv_iconst hx hb dX2_leastLengthOf_27 ?_
        refine zv_icmp_eq hx hb dX2_leastLengthOf_28 (tgt := 45) (by decide) ⟨by omega, by omega⟩ ⟨by omega, by omega⟩ (fun c_4 => ?_) (fun c_4 => ?_)
        · refine zv_iinc (k := 4) (lv' := [(3, .int (iI (i + 1))), (4, .int (iI (L (q * 343 + i)))), (0, .ref tt), (1, .int (iI q)), (2, .int (iI y))]) hx hb dX2_leastLengthOf_45 hl rfl (by decide) rfl (fun ls hl => ?_)
          refine lv_goto (tgt := 4) hx hb dX2_leastLengthOf_48 (by decide) ?_
          exact ih y (i + 1) (j + 1) (by omega) (by omega) (by unfold lsN; rw [← hi, ← hy]; first | rw [if_pos (by omega)] | rw [if_neg (by omega)]) (by omega) ls (lv_sub hl [2, 3, 4, 0] rfl)
        · refine lv_iload_n hx hb dX2_leastLengthOf_31 rfl (lv_at hl 3 rfl) ?_
          refine zv_iconst hx hb dX2_leastLengthOf_32 ?_
          refine zv_icmp_eq hx hb dX2_leastLengthOf_33 (tgt := 42) (by decide) ⟨by omega, by omega⟩ ⟨by omega, by omega⟩ (fun c_5 => ?_) (fun c_5 => ?_)
          · refine lv_iload hx hb dX2_leastLengthOf_42 (lv_at hl 0 rfl) ?_
            refine lv_istore_n (lv' := [(2, .int (iI (L (q * 343 + i)))), (4, .int (iI (L (q * 343 + i)))), (0, .ref tt), (1, .int (iI q)), (3, .int (iI i))]) hx hb dX2_leastLengthOf_44 rfl hl (by decide) rfl (fun ls hl => ?_)
            refine zv_iinc (k := 4) (lv' := [(3, .int (iI (i + 1))), (2, .int (iI (L (q * 343 + i)))), (4, .int (iI (L (q * 343 + i)))), (0, .ref tt), (1, .int (iI q))]) hx hb dX2_leastLengthOf_45 hl rfl (by decide) rfl (fun ls hl => ?_)
            refine lv_goto (tgt := 4) hx hb dX2_leastLengthOf_48 (by decide) ?_
            exact ih (L (q * 343 + i)) (i + 1) (j + 1) (by omega) (by omega) (by unfold lsN; rw [← hi, ← hy]; first | rw [if_pos (by omega)] | rw [if_neg (by omega)]) (by omega) ls (lv_sub hl [3, 4, 1, 0] rfl)
          · refine lv_iload hx hb dX2_leastLengthOf_36 (lv_at hl 0 rfl) ?_
            refine lv_iload_n hx hb dX2_leastLengthOf_38 rfl (lv_at hl 3 rfl) ?_
            refine zv_icmp_ge hx hb dX2_leastLengthOf_39 (tgt := 45) (by decide) ⟨by omega, by omega⟩ ⟨by omega, by omega⟩ (fun c_6 => ?_) (fun c_6 => ?_)
            · refine zv_iinc (k := 4) (lv' := [(3, .int (iI (i + 1))), (4, .int (iI (L (q * 343 + i)))), (0, .ref tt), (1, .int (iI q)), (2, .int (iI y))]) hx hb dX2_leastLengthOf_45 hl rfl (by decide) rfl (fun ls hl => ?_)
              refine lv_goto (tgt := 4) hx hb dX2_leastLengthOf_48 (by decide) ?_
              exact ih y (i + 1) (j + 1) (by omega) (by omega) (by unfold lsN; rw [← hi, ← hy]; first | rw [if_pos (by omega)] | rw [if_neg (by omega)]) (by omega) ls (lv_sub hl [2, 3, 4, 0] rfl)
            · refine lv_iload hx hb dX2_leastLengthOf_42 (lv_at hl 0 rfl) ?_
              refine lv_istore_n (lv' := [(2, .int (iI (L (q * 343 + i)))), (4, .int (iI (L (q * 343 + i)))), (0, .ref tt), (1, .int (iI q)), (3, .int (iI i))]) hx hb dX2_leastLengthOf_44 rfl hl (by decide) rfl (fun ls hl => ?_)
              refine zv_iinc (k := 4) (lv' := [(3, .int (iI (i + 1))), (2, .int (iI (L (q * 343 + i)))), (4, .int (iI (L (q * 343 + i)))), (0, .ref tt), (1, .int (iI q))]) hx hb dX2_leastLengthOf_45 hl rfl (by decide) rfl (fun ls hl => ?_)
              refine lv_goto (tgt := 4) hx hb dX2_leastLengthOf_48 (by decide) ?_
              exact ih (L (q * 343 + i)) (i + 1) (j + 1) (by omega) (by omega) (by unfold lsN; rw [← hi, ← hy]; first | rw [if_pos (by omega)] | rw [if_neg (by omega)]) (by omega) ls (lv_sub hl [3, 4, 1, 0] rfl)
  exact loop4 344 (-1) 0 0 rfl (by omega) rfl (by omega) ls (lv_sub hl [2, 3, 1, 0] rfl)
set_option maxRecDepth 100000 in
set_option maxHeartbeats 4000000 in
theorem c_X2_length (l : Launch) (D : va_G) (cI cJ : ClassId) (tt fl s1 s2 pn d1 r1 : Nat) (lim bs P sm C R np c1 : Int) (gn g1 : Nat → Int) (N L : Int → Int) (hF : FlOK C R np N gn) (hL : LenOK L g1) (hlm : 1 ≤ lim ∧ lim ≤ 60) (hP0 : 0 ≤ P ∧ P < 16807) : PM l yX2_length (.code yX2_length cX2_length 1 (some .int)) 1 [.ref tt] D cI cJ [(tt, .inr (2, [.ref fl, .int (iI lim), .ref s1, .ref s2, .int (iI bs), .int (iI P), .int (iI sm)])), (fl, .inr (0, [.int (iI C), .int (iI R), .ref pn, .int (iI np)])), (pn, .inl (cI, 49, .inl (aI gn))), (s1, .inr (1, [.ref d1, .ref r1, .int (iI c1)])), (d1, .inl (cI, 16807, .inl (aI g1)))] (fun r => r = L P) := by
  obtain ⟨hC1, hC2, hR1, hR2, hp1, hp2, -, -⟩ := id hF
  obtain ⟨hP1, hP2⟩ := hP0
  refine PM_of (by decide) rfl (Nat.le_of_ble_eq_true rfl) (fun p e s m below meth c ls hx hb hr hts hown hlk hml hK hP hl => ?_)
  have hl : lv_has ls 1 [(0, .ref tt)] := hl
  refine lv_aload_n hx hb dX2_length_0 rfl (lv_at hl 0 rfl) ?_
  refine va_get (D := D) (ci := 2) (v := .ref s1) (C := RX2) (T := TX2) (N := 7) hx hb hts uX2 hown hK.1 hP 0 rfl rfl 2 (by decide) (hts _ q_159) (fun _ h9 => h9) rfl dX2_length_1 ?_
  refine lv_aload_n hx hb dX2_length_4 rfl (lv_at hl 0 rfl) ?_
  refine va_get (D := D) (ci := 2) (v := .int (iI P)) (C := RX2) (T := TX2) (N := 7) hx hb hts uX2 hown hK.1 hP 0 rfl rfl 5 (by decide) (hts _ q_162) (fun _ h9 => h9) rfl dX2_length_5 ?_
  refine zc_V (As := [.int (iI P)]) (rest := []) (ws := [(tt, .inr (2, [.ref fl, .int (iI lim), .ref s1, .ref s2, .int (iI bs), .int (iI P), .int (iI sm)])), (fl, .inr (0, [.int (iI C), .int (iI R), .ref pn, .int (iI np)])), (pn, .inl (cI, 49, .inl (aI gn))), (s1, .inr (1, [.ref d1, .ref r1, .int (iI c1)])), (d1, .inl (cI, 16807, .inl (aI g1)))]) (n := 1) hx hb (hml.trans hl.1.symm) hts hown hK hP (c_X1_distanceOf l D cI cJ s1 d1 r1 c1 g1 L P hL (by omega) (by omega)) (gd_V q_202 q_154 q_155 q_2 q_156) (by decide +kernel) rfl ⟨Nat.le_of_ble_eq_true rfl, Nat.le_of_ble_eq_true rfl⟩ ⟨Nat.zero_le _, Nat.zero_le _⟩ [3, 4] rfl 3 (ci := 1) rfl rfl rfl rfl (Nat.le_of_ble_eq_true rfl) dX2_length_8 (fun r_1 hr_1 => ?_)
  subst hr_1
  exact PM_iret hx hb hr hlk dX2_length_11 (by first | rfl | omega)
set_option maxRecDepth 100000 in
set_option maxHeartbeats 4000000 in
theorem c_X2_slack (l : Launch) (D : va_G) (cI cJ : ClassId) (tt fl s1 s2 pn d1 r1 : Nat) (lim bs P sm C R np c1 : Int) (gn g1 : Nat → Int) (N L : Int → Int) (hF : FlOK C R np N gn) (hL : LenOK L g1) (hlm : 1 ≤ lim ∧ lim ≤ 60) (hP0 : 0 ≤ P ∧ P < 16807) : PM l yX2_slack (.code yX2_slack cX2_slack 1 (some .int)) 2 [.ref tt] D cI cJ [(tt, .inr (2, [.ref fl, .int (iI lim), .ref s1, .ref s2, .int (iI bs), .int (iI P), .int (iI sm)])), (fl, .inr (0, [.int (iI C), .int (iI R), .ref pn, .int (iI np)])), (pn, .inl (cI, 49, .inl (aI gn))), (s1, .inr (1, [.ref d1, .ref r1, .int (iI c1)])), (d1, .inl (cI, 16807, .inl (aI g1)))] (fun r => r = lim - L P) := by
  obtain ⟨hC1, hC2, hR1, hR2, hp1, hp2, -, -⟩ := id hF
  refine PM_of (by decide) rfl (Nat.le_of_ble_eq_true rfl) (fun p e s m below meth c ls hx hb hr hts hown hlk hml hK hP hl => ?_)
  have hl : lv_has ls 1 [(0, .ref tt)] := hl
  refine lv_aload_n hx hb dX2_slack_0 rfl (lv_at hl 0 rfl) ?_
  refine va_get (D := D) (ci := 2) (v := .int (iI lim)) (C := RX2) (T := TX2) (N := 7) hx hb hts uX2 hown hK.1 hP 0 rfl rfl 1 (by decide) (hts _ q_158) (fun _ h9 => h9) rfl dX2_slack_1 ?_
  refine lv_aload_n hx hb dX2_slack_4 rfl (lv_at hl 0 rfl) ?_
  refine zc_V (As := []) (rest := [.int (iI lim)]) (ws := [(tt, .inr (2, [.ref fl, .int (iI lim), .ref s1, .ref s2, .int (iI bs), .int (iI P), .int (iI sm)])), (fl, .inr (0, [.int (iI C), .int (iI R), .ref pn, .int (iI np)])), (pn, .inl (cI, 49, .inl (aI gn))), (s1, .inr (1, [.ref d1, .ref r1, .int (iI c1)])), (d1, .inl (cI, 16807, .inl (aI g1)))]) (n := 0) hx hb (hml.trans hl.1.symm) hts hown hK hP (c_X2_length l D cI cJ tt fl s1 s2 pn d1 r1 lim bs P sm C R np c1 gn g1 N L hF hL hlm hP0) (gd_V q_207 q_199 q_200 q_1 q_201) (by decide +kernel) rfl ⟨Nat.le_of_ble_eq_true rfl, Nat.le_of_ble_eq_true rfl⟩ ⟨Nat.zero_le _, Nat.zero_le _⟩ [0, 1, 2, 3, 4] rfl 0 (ci := 2) rfl rfl rfl rfl (Nat.le_of_ble_eq_true rfl) dX2_slack_5 (fun r_1 hr_1 => ?_)
  subst hr_1
  refine zv_isub hx hb dX2_slack_8 ?_
  exact PM_iret hx hb hr hlk dX2_slack_9 (by first | rfl | omega)
set_option maxRecDepth 100000 in
set_option maxHeartbeats 4000000 in
theorem c_X2_steps (l : Launch) (D : va_G) (cI cJ : ClassId) (tt fl s1 s2 pn d1 r1 : Nat) (lim bs P sm C R np c1 : Int) (gn g1 : Nat → Int) (N L : Int → Int) (hF : FlOK C R np N gn) (hL : LenOK L g1) (hlm : 1 ≤ lim ∧ lim ≤ 60) : PM l yX2_steps (.code yX2_steps cX2_steps 1 (some .int)) 0 [.ref tt] D cI cJ [(tt, .inr (2, [.ref fl, .int (iI lim), .ref s1, .ref s2, .int (iI bs), .int (iI P), .int (iI sm)])), (fl, .inr (0, [.int (iI C), .int (iI R), .ref pn, .int (iI np)])), (pn, .inl (cI, 49, .inl (aI gn))), (s1, .inr (1, [.ref d1, .ref r1, .int (iI c1)])), (d1, .inl (cI, 16807, .inl (aI g1)))] (fun r => r = sm) := by
  obtain ⟨hC1, hC2, hR1, hR2, hp1, hp2, -, -⟩ := id hF
  refine PM_of (by decide) rfl (Nat.le_of_ble_eq_true rfl) (fun p e s m below meth c ls hx hb hr hts hown hlk hml hK hP hl => ?_)
  have hl : lv_has ls 1 [(0, .ref tt)] := hl
  refine lv_aload_n hx hb dX2_steps_0 rfl (lv_at hl 0 rfl) ?_
  refine va_get (D := D) (ci := 2) (v := .int (iI sm)) (C := RX2) (T := TX2) (N := 7) hx hb hts uX2 hown hK.1 hP 0 rfl rfl 6 (by decide) (hts _ q_163) (fun _ h9 => h9) rfl dX2_steps_1 ?_
  exact PM_iret hx hb hr hlk dX2_steps_4 (by first | rfl | omega)
set_option maxRecDepth 100000 in
set_option maxHeartbeats 4000000 in
theorem c_X2_column (l : Launch) (D : va_G) (cI cJ : ClassId) (tt fl s1 s2 pn d1 r1 : Nat) (lim bs P sm C R np c1 : Int) (gn g1 : Nat → Int) (N L : Int → Int) (hF : FlOK C R np N gn) (hL : LenOK L g1) (hlm : 1 ≤ lim ∧ lim ≤ 60) (hP0 : 0 ≤ P ∧ P < 16807) : PM l yX2_column (.code yX2_column cX2_column 1 (some .int)) 1 [.ref tt] D cI cJ [(tt, .inr (2, [.ref fl, .int (iI lim), .ref s1, .ref s2, .int (iI bs), .int (iI P), .int (iI sm)])), (fl, .inr (0, [.int (iI C), .int (iI R), .ref pn, .int (iI np)])), (pn, .inl (cI, 49, .inl (aI gn))), (s1, .inr (1, [.ref d1, .ref r1, .int (iI c1)])), (d1, .inl (cI, 16807, .inl (aI g1)))] (fun r => r = P / 343 / 7) := by
  obtain ⟨hC1, hC2, hR1, hR2, hp1, hp2, -, -⟩ := id hF
  refine PM_of (by decide) rfl (Nat.le_of_ble_eq_true rfl) (fun p e s m below meth c ls hx hb hr hts hown hlk hml hK hP hl => ?_)
  have hl : lv_has ls 1 [(0, .ref tt)] := hl
  refine lv_aload_n hx hb dX2_column_0 rfl (lv_at hl 0 rfl) ?_
  refine va_get (D := D) (ci := 2) (v := .int (iI P)) (C := RX2) (T := TX2) (N := 7) hx hb hts uX2 hown hK.1 hP 0 rfl rfl 5 (by decide) (hts _ q_162) (fun _ h9 => h9) rfl dX2_column_1 ?_
  refine zc_S (As := [.int (iI P)]) (rest := []) (ws := [(tt, .inr (2, [.ref fl, .int (iI lim), .ref s1, .ref s2, .int (iI bs), .int (iI P), .int (iI sm)])), (fl, .inr (0, [.int (iI C), .int (iI R), .ref pn, .int (iI np)])), (pn, .inl (cI, 49, .inl (aI gn))), (s1, .inr (1, [.ref d1, .ref r1, .int (iI c1)])), (d1, .inl (cI, 16807, .inl (aI g1)))]) (n := 1) hx hb (hml.trans hl.1.symm) hts hown hK hP (c_X2_squareOf l D cI cJ P (by omega) (by omega)) (gd_S q_183 q_102 q_1 q_103) (by decide +kernel) rfl ⟨Nat.le_of_ble_eq_true rfl, Nat.le_of_ble_eq_true rfl⟩ ⟨Nat.zero_le _, Nat.zero_le _⟩ [] rfl rfl (Nat.le_of_ble_eq_true rfl) dX2_column_4 (fun r_1 hr_1 => ?_)
  subst hr_1
  refine zc_S (As := [.int (iI (P / 343))]) (rest := []) (ws := [(tt, .inr (2, [.ref fl, .int (iI lim), .ref s1, .ref s2, .int (iI bs), .int (iI P), .int (iI sm)])), (fl, .inr (0, [.int (iI C), .int (iI R), .ref pn, .int (iI np)])), (pn, .inl (cI, 49, .inl (aI gn))), (s1, .inr (1, [.ref d1, .ref r1, .int (iI c1)])), (d1, .inl (cI, 16807, .inl (aI g1)))]) (n := 1) hx hb (hml.trans hl.1.symm) hts hown hK hP (c_X2_columnOf l D cI cJ (P / 343) (by omega) (by omega)) (gd_S q_184 q_105 q_1 q_106) (by decide +kernel) rfl ⟨Nat.le_of_ble_eq_true rfl, Nat.le_of_ble_eq_true rfl⟩ ⟨Nat.zero_le _, Nat.zero_le _⟩ [] rfl rfl (Nat.le_of_ble_eq_true rfl) dX2_column_7 (fun r_2 hr_2 => ?_)
  subst hr_2
  exact PM_iret hx hb hr hlk dX2_column_10 (by first | rfl | omega)
set_option maxRecDepth 100000 in
set_option maxHeartbeats 4000000 in
theorem c_X2_row (l : Launch) (D : va_G) (cI cJ : ClassId) (tt fl s1 s2 pn d1 r1 : Nat) (lim bs P sm C R np c1 : Int) (gn g1 : Nat → Int) (N L : Int → Int) (hF : FlOK C R np N gn) (hL : LenOK L g1) (hlm : 1 ≤ lim ∧ lim ≤ 60) (hP0 : 0 ≤ P ∧ P < 16807) : PM l yX2_row (.code yX2_row cX2_row 1 (some .int)) 1 [.ref tt] D cI cJ [(tt, .inr (2, [.ref fl, .int (iI lim), .ref s1, .ref s2, .int (iI bs), .int (iI P), .int (iI sm)])), (fl, .inr (0, [.int (iI C), .int (iI R), .ref pn, .int (iI np)])), (pn, .inl (cI, 49, .inl (aI gn))), (s1, .inr (1, [.ref d1, .ref r1, .int (iI c1)])), (d1, .inl (cI, 16807, .inl (aI g1)))] (fun r => r = P / 343 % 7) := by
  obtain ⟨hC1, hC2, hR1, hR2, hp1, hp2, -, -⟩ := id hF
  refine PM_of (by decide) rfl (Nat.le_of_ble_eq_true rfl) (fun p e s m below meth c ls hx hb hr hts hown hlk hml hK hP hl => ?_)
  have hl : lv_has ls 1 [(0, .ref tt)] := hl
  refine lv_aload_n hx hb dX2_row_0 rfl (lv_at hl 0 rfl) ?_
  refine va_get (D := D) (ci := 2) (v := .int (iI P)) (C := RX2) (T := TX2) (N := 7) hx hb hts uX2 hown hK.1 hP 0 rfl rfl 5 (by decide) (hts _ q_162) (fun _ h9 => h9) rfl dX2_row_1 ?_
  refine zc_S (As := [.int (iI P)]) (rest := []) (ws := [(tt, .inr (2, [.ref fl, .int (iI lim), .ref s1, .ref s2, .int (iI bs), .int (iI P), .int (iI sm)])), (fl, .inr (0, [.int (iI C), .int (iI R), .ref pn, .int (iI np)])), (pn, .inl (cI, 49, .inl (aI gn))), (s1, .inr (1, [.ref d1, .ref r1, .int (iI c1)])), (d1, .inl (cI, 16807, .inl (aI g1)))]) (n := 1) hx hb (hml.trans hl.1.symm) hts hown hK hP (c_X2_squareOf l D cI cJ P (by omega) (by omega)) (gd_S q_183 q_102 q_1 q_103) (by decide +kernel) rfl ⟨Nat.le_of_ble_eq_true rfl, Nat.le_of_ble_eq_true rfl⟩ ⟨Nat.zero_le _, Nat.zero_le _⟩ [] rfl rfl (Nat.le_of_ble_eq_true rfl) dX2_row_4 (fun r_1 hr_1 => ?_)
  subst hr_1
  refine zc_S (As := [.int (iI (P / 343))]) (rest := []) (ws := [(tt, .inr (2, [.ref fl, .int (iI lim), .ref s1, .ref s2, .int (iI bs), .int (iI P), .int (iI sm)])), (fl, .inr (0, [.int (iI C), .int (iI R), .ref pn, .int (iI np)])), (pn, .inl (cI, 49, .inl (aI gn))), (s1, .inr (1, [.ref d1, .ref r1, .int (iI c1)])), (d1, .inl (cI, 16807, .inl (aI g1)))]) (n := 1) hx hb (hml.trans hl.1.symm) hts hown hK hP (c_X2_rowOf l D cI cJ (P / 343) (by omega) (by omega)) (gd_S q_189 q_108 q_1 q_109) (by decide +kernel) rfl ⟨Nat.le_of_ble_eq_true rfl, Nat.le_of_ble_eq_true rfl⟩ ⟨Nat.zero_le _, Nat.zero_le _⟩ [] rfl rfl (Nat.le_of_ble_eq_true rfl) dX2_row_7 (fun r_2 hr_2 => ?_)
  subst hr_2
  exact PM_iret hx hb hr hlk dX2_row_10 (by first | rfl | omega)
set_option maxRecDepth 100000 in
set_option maxHeartbeats 4000000 in
theorem c_X2_letters (l : Launch) (D : va_G) (cI cJ : ClassId) (tt fl s1 s2 pn d1 r1 : Nat) (lim bs P sm C R np c1 : Int) (gn g1 : Nat → Int) (N L : Int → Int) (hF : FlOK C R np N gn) (hL : LenOK L g1) (hlm : 1 ≤ lim ∧ lim ≤ 60) (hP0 : 0 ≤ P ∧ P < 16807) : PM l yX2_letters (.code yX2_letters cX2_letters 1 (some .int)) 1 [.ref tt] D cI cJ [(tt, .inr (2, [.ref fl, .int (iI lim), .ref s1, .ref s2, .int (iI bs), .int (iI P), .int (iI sm)])), (fl, .inr (0, [.int (iI C), .int (iI R), .ref pn, .int (iI np)])), (pn, .inl (cI, 49, .inl (aI gn))), (s1, .inr (1, [.ref d1, .ref r1, .int (iI c1)])), (d1, .inl (cI, 16807, .inl (aI g1)))] (fun r => r = lenZ (P % 343)) := by
  obtain ⟨hC1, hC2, hR1, hR2, hp1, hp2, -, -⟩ := id hF
  refine PM_of (by decide) rfl (Nat.le_of_ble_eq_true rfl) (fun p e s m below meth c ls hx hb hr hts hown hlk hml hK hP hl => ?_)
  have hl : lv_has ls 1 [(0, .ref tt)] := hl
  refine lv_aload_n hx hb dX2_letters_0 rfl (lv_at hl 0 rfl) ?_
  refine va_get (D := D) (ci := 2) (v := .int (iI P)) (C := RX2) (T := TX2) (N := 7) hx hb hts uX2 hown hK.1 hP 0 rfl rfl 5 (by decide) (hts _ q_162) (fun _ h9 => h9) rfl dX2_letters_1 ?_
  refine zc_S (As := [.int (iI P)]) (rest := []) (ws := [(tt, .inr (2, [.ref fl, .int (iI lim), .ref s1, .ref s2, .int (iI bs), .int (iI P), .int (iI sm)])), (fl, .inr (0, [.int (iI C), .int (iI R), .ref pn, .int (iI np)])), (pn, .inl (cI, 49, .inl (aI gn))), (s1, .inr (1, [.ref d1, .ref r1, .int (iI c1)])), (d1, .inl (cI, 16807, .inl (aI g1)))]) (n := 1) hx hb (hml.trans hl.1.symm) hts hown hK hP (c_X2_wordOf l D cI cJ P (by omega) (by omega)) (gd_S q_194 q_111 q_1 q_112) (by decide +kernel) rfl ⟨Nat.le_of_ble_eq_true rfl, Nat.le_of_ble_eq_true rfl⟩ ⟨Nat.zero_le _, Nat.zero_le _⟩ [] rfl rfl (Nat.le_of_ble_eq_true rfl) dX2_letters_4 (fun r_1 hr_1 => ?_)
  subst hr_1
  refine zc_S (As := [.int (iI (P % 343))]) (rest := []) (ws := [(tt, .inr (2, [.ref fl, .int (iI lim), .ref s1, .ref s2, .int (iI bs), .int (iI P), .int (iI sm)])), (fl, .inr (0, [.int (iI C), .int (iI R), .ref pn, .int (iI np)])), (pn, .inl (cI, 49, .inl (aI gn))), (s1, .inr (1, [.ref d1, .ref r1, .int (iI c1)])), (d1, .inl (cI, 16807, .inl (aI g1)))]) (n := 1) hx hb (hml.trans hl.1.symm) hts hown hK hP (c_X2_lettersOf l D cI cJ (P % 343) (by omega) (by omega)) (gd_S q_195 q_196 q_1 q_197) (by decide +kernel) rfl ⟨Nat.le_of_ble_eq_true rfl, Nat.le_of_ble_eq_true rfl⟩ ⟨Nat.zero_le _, Nat.zero_le _⟩ [] rfl rfl (Nat.le_of_ble_eq_true rfl) dX2_letters_7 (fun r_2 hr_2 => ?_)
  subst hr_2
  exact PM_iret hx hb hr hlk dX2_letters_10 (by first | rfl | omega)
set_option maxRecDepth 100000 in
set_option maxHeartbeats 4000000 in
theorem c_X2_bends (l : Launch) (D : va_G) (cI cJ : ClassId) (tt fl s1 s2 pn d1 r1 : Nat) (lim bs P sm C R np c1 : Int) (gn g1 : Nat → Int) (N L : Int → Int) (hF : FlOK C R np N gn) (hL : LenOK L g1) (hlm : 1 ≤ lim ∧ lim ≤ 60) (hP0 : 0 ≤ P ∧ P < 16807) (hA : AlOK C R N L P (L P)) (hrow : PlOK R (alZ C R N L P (L P).toNat)) : PM l yX2_bends (.code yX2_bends cX2_bends 6 (some .int)) 6 [.ref tt] D cI cJ [(tt, .inr (2, [.ref fl, .int (iI lim), .ref s1, .ref s2, .int (iI bs), .int (iI P), .int (iI sm)])), (fl, .inr (0, [.int (iI C), .int (iI R), .ref pn, .int (iI np)])), (pn, .inl (cI, 49, .inl (aI gn))), (s1, .inr (1, [.ref d1, .ref r1, .int (iI c1)])), (d1, .inl (cI, 16807, .inl (aI g1)))] (fun r => r = bdN C R N L P (L P - 1).toNat) := by
  obtain ⟨hC1, hC2, hR1, hR2, hp1, hp2, -, -⟩ := id hF
  have hLP := hL.b P
  have hrow0 : ∀ j : Nat, (j : Int) ≤ L P → PlOK R (alZ C R N L P j) := fun j hj => by
    rcases Int.lt_or_eq_of_le hj with h | h
    · exact (hA j h).1
    · rw [show j = (L P).toNat by omega]; exact hrow
  have hrP : 0 ≤ P ∧ P < 16807 ∧ P / 343 % 7 < R := by
    by_cases h : 0 ≤ L P
    · exact hrow0 0 h
    · rw [show (L P).toNat = 0 by omega] at hrow; exact hrow
  have hcb := cdZ_b C R N L P
  refine PM_of (by decide) rfl (Nat.le_of_ble_eq_true rfl) (fun p e s m below meth c ls hx hb hr hts hown hlk hml hK hP hl => ?_)
  have hl : lv_has ls 6 [(0, .ref tt)] := hl
  refine zv_iconst hx hb dX2_bends_0 ?_
  refine lv_istore_n (lv' := [(1, .int (iI 0)), (0, .ref tt)]) hx hb dX2_bends_1 rfl hl (by decide) rfl (fun ls hl => ?_)
  refine lv_aload_n hx hb dX2_bends_2 rfl (lv_at hl 1 rfl) ?_
  refine va_get (D := D) (ci := 2) (v := .int (iI P)) (C := RX2) (T := TX2) (N := 7) hx hb hts uX2 hown hK.1 hP 0 rfl rfl 5 (by decide) (hts _ q_162) (fun _ h9 => h9) rfl dX2_bends_3 ?_
  refine lv_istore_n (lv' := [(2, .int (iI P)), (1, .int (iI 0)), (0, .ref tt)]) hx hb dX2_bends_6 rfl hl (by decide) rfl (fun ls hl => ?_)
  refine lv_aload_n hx hb dX2_bends_7 rfl (lv_at hl 2 rfl) ?_
  refine lv_iload_n hx hb dX2_bends_8 rfl (lv_at hl 0 rfl) ?_
  refine zc_V (As := [.int (iI P)]) (rest := []) (ws := [(tt, .inr (2, [.ref fl, .int (iI lim), .ref s1, .ref s2, .int (iI bs), .int (iI P), .int (iI sm)])), (fl, .inr (0, [.int (iI C), .int (iI R), .ref pn, .int (iI np)])), (pn, .inl (cI, 49, .inl (aI gn))), (s1, .inr (1, [.ref d1, .ref r1, .int (iI c1)])), (d1, .inl (cI, 16807, .inl (aI g1)))]) (n := 1) hx hb (hml.trans hl.1.symm) hts hown hK hP (c_X2_cableDirection l D cI cJ tt fl s1 s2 pn d1 r1 lim bs P sm C R np c1 gn g1 N L P hF hL hlm (by omega) (by omega) (by omega)) (gd_V q_216 q_218 q_1006 q_1 q_219) (by decide +kernel) rfl ⟨Nat.le_of_ble_eq_true rfl, Nat.le_of_ble_eq_true rfl⟩ ⟨Nat.zero_le _, Nat.zero_le _⟩ [0, 1, 2, 3, 4] rfl 0 (ci := 2) rfl rfl rfl rfl (Nat.le_of_ble_eq_true rfl) dX2_bends_9 (fun r_1 hr_1 => ?_)
  subst hr_1
  refine lv_istore_n (lv' := [(3, .int (iI (cdZ C R N L P))), (2, .int (iI P)), (1, .int (iI 0)), (0, .ref tt)]) hx hb dX2_bends_12 rfl hl (by decide) rfl (fun ls hl => ?_)
  refine lv_aload_n hx hb dX2_bends_13 rfl (lv_at hl 3 rfl) ?_
  refine zc_V (As := []) (rest := []) (ws := [(tt, .inr (2, [.ref fl, .int (iI lim), .ref s1, .ref s2, .int (iI bs), .int (iI P), .int (iI sm)])), (fl, .inr (0, [.int (iI C), .int (iI R), .ref pn, .int (iI np)])), (pn, .inl (cI, 49, .inl (aI gn))), (s1, .inr (1, [.ref d1, .ref r1, .int (iI c1)])), (d1, .inl (cI, 16807, .inl (aI g1)))]) (n := 0) hx hb (hml.trans hl.1.symm) hts hown hK hP (c_X2_length l D cI cJ tt fl s1 s2 pn d1 r1 lim bs P sm C R np c1 gn g1 N L hF hL hlm hP0) (gd_V q_207 q_199 q_200 q_1 q_201) (by decide +kernel) rfl ⟨Nat.le_of_ble_eq_true rfl, Nat.le_of_ble_eq_true rfl⟩ ⟨Nat.zero_le _, Nat.zero_le _⟩ [0, 1, 2, 3, 4] rfl 0 (ci := 2) rfl rfl rfl rfl (Nat.le_of_ble_eq_true rfl) dX2_bends_14 (fun r_2 hr_2 => ?_)
  subst hr_2
  refine lv_istore (lv' := [(4, .int (iI (L P))), (3, .int (iI (cdZ C R N L P))), (2, .int (iI P)), (1, .int (iI 0)), (0, .ref tt)]) hx hb dX2_bends_17 hl (by decide) rfl (fun ls hl => ?_)
  have loop19 : ∀ (n : Nat) (u y f v : Int) (j : Nat), (v = L P - (j : Int)) → (j = 0 ∨ 1 ≤ v) → (y = alZ C R N L P j) → (f = cdZ C R N L (alZ C R N L P j)) → (u = bdN C R N L P j) → (v + 1 < (n : Int)) → ∀ ls : Array Slot, lv_has ls 6 [(0, .ref tt), (1, .int (iI u)), (2, .int (iI y)), (3, .int (iI f)), (4, .int (iI v))] → W p l e (lvl 6) s m [.ref tt].toArray below meth c s.heap [] 0 0 (MQ below (PQ (fun r => r = bdN C R N L P (L P - 1).toNat)) [.ref tt].toArray s 0 0 (fun _ => False)) (F0 m 19 ls []) := by
    intro n
    induction n with
    | zero => intro u y f v j hv hv0 hy hf hu hms; exfalso; omega
    | succ n ih =>
      intro u y f v j hv hv0 hy hf hu hms ls hl
      have hfb := cdZ_b C R N L (alZ C R N L P j)
      rw [← hf] at hfb
      refine lv_iload hx hb dX2_bends_19 (lv_at hl 4 rfl) ?_
      refine zv_iconst hx hb dX2_bends_21 ?_
      refine zv_icmp_le hx hb dX2_bends_22 (tgt := 60) (by decide) ⟨by omega, by omega⟩ ⟨by omega, by omega⟩ (fun c_3 => ?_) (fun c_3 => ?_)
      · refine lv_iload_n hx hb dX2_bends_60 rfl (lv_at hl 1 rfl) ?_
        exact PM_iret hx hb hr hlk dX2_bends_61 (by rw [hu, show (L P - 1).toNat = j by omega])
      · refine lv_aload_n hx hb dX2_bends_25 rfl (lv_at hl 0 rfl) ?_
        refine va_get (D := D) (ci := 2) (v := .ref fl) (C := RX2) (T := TX2) (N := 7) hx hb hts uX2 hown hK.1 hP 0 rfl rfl 0 (by decide) (hts _ q_157) (fun _ h9 => h9) rfl dX2_bends_26 ?_
        refine lv_iload_n hx hb dX2_bends_29 rfl (lv_at hl 2 rfl) ?_
        refine lv_iload_n hx hb dX2_bends_30 rfl (lv_at hl 3 rfl) ?_
        obtain ⟨hA1, hA2, hA3⟩ := hA j (by omega)
        have hA4 := hrow0 (j + 1) (by omega)
        rw [show alZ C R N L P (j + 1) = aftZ C R N y f by rw [hy, hf]; rfl] at hA4
        rw [← hf] at hA2 hA3
        rw [← hy] at hA1
        obtain ⟨hy0, hy1, hy2⟩ := hA1
        obtain ⟨hz0, hz1, hz2⟩ := hA4
        refine zc_V (As := [.int (iI y), .int (iI f)]) (rest := []) (ws := [(tt, .inr (2, [.ref fl, .int (iI lim), .ref s1, .ref s2, .int (iI bs), .int (iI P), .int (iI sm)])), (fl, .inr (0, [.int (iI C), .int (iI R), .ref pn, .int (iI np)])), (pn, .inl (cI, 49, .inl (aI gn))), (s1, .inr (1, [.ref d1, .ref r1, .int (iI c1)])), (d1, .inl (cI, 16807, .inl (aI g1)))]) (n := 2) hx hb (hml.trans hl.1.symm) hts hown hK hP (c_X0_after l D cI cJ fl pn C R np gn N y f hF (by omega) (by omega) (by omega) (by omega) (by omega)) (gd_V q_97 q_98 q_99 q_3 q_100) (by decide +kernel) rfl ⟨Nat.le_of_ble_eq_true rfl, Nat.le_of_ble_eq_true rfl⟩ ⟨Nat.zero_le _, Nat.zero_le _⟩ [1, 2] rfl 1 (ci := 0) rfl rfl rfl rfl (Nat.le_of_ble_eq_true rfl) dX2_bends_31 (fun r_4 hr_4 => ?_)
        subst hr_4
        refine lv_istore_n (lv' := [(2, .int (iI (aftZ C R N y f))), (0, .ref tt), (1, .int (iI u)), (3, .int (iI f)), (4, .int (iI v))]) hx hb dX2_bends_34 rfl hl (by decide) rfl (fun ls hl => ?_)
        refine lv_aload_n hx hb dX2_bends_35 rfl (lv_at hl 1 rfl) ?_
        refine lv_iload_n hx hb dX2_bends_36 rfl (lv_at hl 0 rfl) ?_
        refine zc_V (As := [.int (iI (aftZ C R N y f))]) (rest := []) (ws := [(tt, .inr (2, [.ref fl, .int (iI lim), .ref s1, .ref s2, .int (iI bs), .int (iI P), .int (iI sm)])), (fl, .inr (0, [.int (iI C), .int (iI R), .ref pn, .int (iI np)])), (pn, .inl (cI, 49, .inl (aI gn))), (s1, .inr (1, [.ref d1, .ref r1, .int (iI c1)])), (d1, .inl (cI, 16807, .inl (aI g1)))]) (n := 1) hx hb (hml.trans hl.1.symm) hts hown hK hP (c_X2_cableDirection l D cI cJ tt fl s1 s2 pn d1 r1 lim bs P sm C R np c1 gn g1 N L (aftZ C R N y f) hF hL hlm (by omega) (by omega) (by omega)) (gd_V q_216 q_218 q_1006 q_1 q_219) (by decide +kernel) rfl ⟨Nat.le_of_ble_eq_true rfl, Nat.le_of_ble_eq_true rfl⟩ ⟨Nat.zero_le _, Nat.zero_le _⟩ [0, 1, 2, 3, 4] rfl 0 (ci := 2) rfl rfl rfl rfl (Nat.le_of_ble_eq_true rfl) dX2_bends_37 (fun r_5 hr_5 => ?_)
        subst hr_5
        refine lv_istore (lv' := [(5, .int (iI (cdZ C R N L (aftZ C R N y f)))), (2, .int (iI (aftZ C R N y f))), (0, .ref tt), (1, .int (iI u)), (3, .int (iI f)), (4, .int (iI v))]) hx hb dX2_bends_40 hl (by decide) rfl (fun ls hl => ?_)
        refine lv_iload hx hb dX2_bends_42 (lv_at hl 0 rfl) ?_
        have hgb := cdZ_b C R N L (aftZ C R N y f)
        refine lv_iload_n hx hb dX2_bends_44 rfl (lv_at hl 4 rfl) ?_
        refine zv_icmp_eq hx hb dX2_bends_45 (tgt := 51) (by decide) ⟨by omega, by omega⟩ ⟨by omega, by omega⟩ (fun c_6 => ?_) (fun c_6 => ?_)
        · refine lv_iload hx hb dX2_bends_51 (lv_at hl 0 rfl) ?_
          refine lv_istore_n (lv' := [(3, .int (iI (cdZ C R N L (aftZ C R N y f)))), (5, .int (iI (cdZ C R N L (aftZ C R N y f)))), (2, .int (iI (aftZ C R N y f))), (0, .ref tt), (1, .int (iI u)), (4, .int (iI v))]) hx hb dX2_bends_53 rfl hl (by decide) rfl (fun ls hl => ?_)
          refine zv_iinc (k := 5) (lv' := [(4, .int (iI (v + (-1)))), (3, .int (iI (cdZ C R N L (aftZ C R N y f)))), (5, .int (iI (cdZ C R N L (aftZ C R N y f)))), (2, .int (iI (aftZ C R N y f))), (0, .ref tt), (1, .int (iI u))]) hx hb dX2_bends_54 hl rfl (by decide) rfl (fun ls hl => ?_)
          refine lv_goto (tgt := 19) hx hb dX2_bends_57 (by decide) ?_
          exact ih u (aftZ C R N y f) (cdZ C R N L (aftZ C R N y f)) (v + (-1)) (j + 1) (by omega) (by omega) (by rw [hy, hf]; rfl) (by rw [hy, hf]; rfl) (by show _ = bdN C R N L P j + _; rw [← hu, show alZ C R N L P (j + 1) = aftZ C R N y f by rw [hy, hf]; rfl, ← hf]; first | rw [if_pos (by assumption)]; omega | rw [if_neg (by assumption)]) (by omega) ls (lv_sub hl [4, 5, 3, 1, 0] rfl)
        · refine zv_iinc (k := 3) (lv' := [(1, .int (iI (u + 1))), (5, .int (iI (cdZ C R N L (aftZ C R N y f)))), (2, .int (iI (aftZ C R N y f))), (0, .ref tt), (3, .int (iI f)), (4, .int (iI v))]) hx hb dX2_bends_48 hl rfl (by decide) rfl (fun ls hl => ?_)
          refine lv_iload hx hb dX2_bends_51 (lv_at hl 1 rfl) ?_
          refine lv_istore_n (lv' := [(3, .int (iI (cdZ C R N L (aftZ C R N y f)))), (1, .int (iI (u + 1))), (5, .int (iI (cdZ C R N L (aftZ C R N y f)))), (2, .int (iI (aftZ C R N y f))), (0, .ref tt), (4, .int (iI v))]) hx hb dX2_bends_53 rfl hl (by decide) rfl (fun ls hl => ?_)
          refine zv_iinc (k := 5) (lv' := [(4, .int (iI (v + (-1)))), (3, .int (iI (cdZ C R N L (aftZ C R N y f)))), (1, .int (iI (u + 1))), (5, .int (iI (cdZ C R N L (aftZ C R N y f)))), (2, .int (iI (aftZ C R N y f))), (0, .ref tt)]) hx hb dX2_bends_54 hl rfl (by decide) rfl (fun ls hl => ?_)
          refine lv_goto (tgt := 19) hx hb dX2_bends_57 (by decide) ?_
          exact ih (u + 1) (aftZ C R N y f) (cdZ C R N L (aftZ C R N y f)) (v + (-1)) (j + 1) (by omega) (by omega) (by rw [hy, hf]; rfl) (by rw [hy, hf]; rfl) (by show _ = bdN C R N L P j + _; rw [← hu, show alZ C R N L P (j + 1) = aftZ C R N y f by rw [hy, hf]; rfl, ← hf]; first | rw [if_pos (by assumption)]; omega | rw [if_neg (by assumption)]) (by omega) ls (lv_sub hl [5, 2, 4, 1, 0] rfl)
  exact loop19 ((L P).toNat + 2) 0 P (cdZ C R N L P) (L P) 0 (by omega) (by omega) rfl rfl rfl (by omega) ls (lv_sub hl [4, 3, 2, 1, 0] rfl)
