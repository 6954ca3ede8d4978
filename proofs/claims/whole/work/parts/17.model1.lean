set_option maxRecDepth 100000 in
set_option maxHeartbeats 4000000 in
theorem c_X3_bounded (l : Launch) (D : va_G) (cI cJ : ClassId) (a b d : Int) (ha : InR a) (hb : InR b) (hd : InR d) : PM l yX3_bounded (.code yX3_bounded cX3_bounded 3 (some .int)) 0 [.int (iI a), .int (iI b), .int (iI d)] D cI cJ [] (fun r => r = (if a < b then b else if d < a then d else a)) := by
  obtain ⟨ha1, ha2⟩ := ha
  obtain ⟨hb1, hb2⟩ := hb
  obtain ⟨hd1, hd2⟩ := hd
  refine PM_of (by decide) rfl (Nat.le_of_ble_eq_true rfl) (fun p e s m below meth c ls hx hb hr hts hown hlk hml hK hP hl => ?_)
  have hl : lv_has ls 3 [(0, .int (iI a)), (1, .int (iI b)), (2, .int (iI d))] := hl
  refine lv_iload_n hx hb dX3_bounded_0 rfl (lv_at hl 0 rfl) ?_
  refine lv_iload_n hx hb dX3_bounded_1 rfl (lv_at hl 1 rfl) ?_
  refine zv_icmp_ge hx hb dX3_bounded_2 (tgt := 9) (by decide) ⟨by omega, by omega⟩ ⟨by omega, by omega⟩ (fun c_1 => ?_) (fun c_1 => ?_)
  · refine lv_iload_n hx hb dX3_bounded_9 rfl (lv_at hl 0 rfl) ?_
    refine lv_iload_n hx hb dX3_bounded_10 rfl (lv_at hl 2 rfl) ?_
    refine zv_icmp_le hx hb dX3_bounded_11 (tgt := 18) (by decide) ⟨by omega, by omega⟩ ⟨by omega, by omega⟩ (fun c_2 => ?_) (fun c_2 => ?_)
    · refine lv_iload_n hx hb dX3_bounded_18 rfl (lv_at hl 0 rfl) ?_
      exact PM_iret hx hb hr hlk dX3_bounded_19 (by (repeat' split) <;> omega)
    · refine lv_iload_n hx hb dX3_bounded_14 rfl (lv_at hl 2 rfl) ?_
      refine lv_goto (tgt := 19) hx hb dX3_bounded_15 (by decide) ?_
      exact PM_iret hx hb hr hlk dX3_bounded_19 (by (repeat' split) <;> omega)
  · refine lv_iload_n hx hb dX3_bounded_5 rfl (lv_at hl 1 rfl) ?_
    refine lv_goto (tgt := 19) hx hb dX3_bounded_6 (by decide) ?_
    exact PM_iret hx hb hr hlk dX3_bounded_19 (by (repeat' split) <;> omega)
set_option maxRecDepth 100000 in
set_option maxHeartbeats 4000000 in
theorem c_X3_in (l : Launch) (D : va_G) (cI cJ : ClassId) (a b d : Int) (ha : InR a) (hb : InR b) (hd : InR d) : PM l yX3_in (.code yX3_in cX3_in 3 (some .boolean)) 0 [.int (iI a), .int (iI b), .int (iI d)] D cI cJ [] (fun r => (r = 1 ∧ (b ≤ a ∧ a ≤ d)) ∨ (r = 0 ∧ ¬ (b ≤ a ∧ a ≤ d))) := by
  obtain ⟨ha1, ha2⟩ := ha
  obtain ⟨hb1, hb2⟩ := hb
  obtain ⟨hd1, hd2⟩ := hd
  refine PM_of (by decide) rfl (Nat.le_of_ble_eq_true rfl) (fun p e s m below meth c ls hx hb hr hts hown hlk hml hK hP hl => ?_)
  have hl : lv_has ls 3 [(0, .int (iI a)), (1, .int (iI b)), (2, .int (iI d))] := hl
  refine lv_iload_n hx hb dX3_in_0 rfl (lv_at hl 0 rfl) ?_
  refine lv_iload_n hx hb dX3_in_1 rfl (lv_at hl 1 rfl) ?_
  refine zv_icmp_lt hx hb dX3_in_2 (tgt := 14) (by decide) ⟨by omega, by omega⟩ ⟨by omega, by omega⟩ (fun c_1 => ?_) (fun c_1 => ?_)
  · refine zv_iconst hx hb dX3_in_14 ?_
    exact PM_zret hx hb hr hlk dX3_in_15 (by first | rfl | decide) (by omega)
  · refine lv_iload_n hx hb dX3_in_5 rfl (lv_at hl 0 rfl) ?_
    refine lv_iload_n hx hb dX3_in_6 rfl (lv_at hl 2 rfl) ?_
    refine zv_icmp_gt hx hb dX3_in_7 (tgt := 14) (by decide) ⟨by omega, by omega⟩ ⟨by omega, by omega⟩ (fun c_2 => ?_) (fun c_2 => ?_)
    · refine zv_iconst hx hb dX3_in_14 ?_
      exact PM_zret hx hb hr hlk dX3_in_15 (by first | rfl | decide) (by omega)
    · refine zv_iconst hx hb dX3_in_10 ?_
      refine lv_goto (tgt := 15) hx hb dX3_in_11 (by decide) ?_
      exact PM_zret hx hb hr hlk dX3_in_15 (by first | rfl | decide) (by omega)
set_option maxRecDepth 100000 in
set_option maxHeartbeats 4000000 in
theorem c_X3_squareOf (l : Launch) (D : va_G) (cI cJ : ClassId) (a b : Int) : PM l yX3_squareOf (.code yX3_squareOf cX3_squareOf 2 (some .int)) 0 [.int (iI a), .int (iI b)] D cI cJ [] (fun r => r = 7 * b + a) := by
  refine PM_of (by decide) rfl (Nat.le_of_ble_eq_true rfl) (fun p e s m below meth c ls hx hb hr hts hown hlk hml hK hP hl => ?_)
  have hl : lv_has ls 2 [(0, .int (iI a)), (1, .int (iI b))] := hl
  refine zv_bipush hx hb dX3_squareOf_0 (by decide) ?_
  refine lv_iload_n hx hb dX3_squareOf_2 rfl (lv_at hl 1 rfl) ?_
  refine zv_imul hx hb dX3_squareOf_3 ?_
  refine lv_iload_n hx hb dX3_squareOf_4 rfl (lv_at hl 0 rfl) ?_
  refine zv_iadd hx hb dX3_squareOf_5 ?_
  exact PM_iret hx hb hr hlk dX3_squareOf_6 (by first | rfl | omega)
set_option maxRecDepth 100000 in
set_option maxHeartbeats 4000000 in
theorem c_X3_joined (l : Launch) (D : va_G) (cI cJ : ClassId) (w k : Int) (hw0 : 0 ≤ w) (hw1 : w < 2147483648) (hk0 : 0 ≤ k) (hk1 : k < 6) : PM l yX3_joined (.code yX3_joined cX3_joined 2 (some .int)) 0 [.int (iI w), .int (iI k)] D cI cJ [] (fun r => r = wjZ w k) := by
  refine PM_of (by decide) rfl (Nat.le_of_ble_eq_true rfl) (fun p e s m below meth c ls hx hb hr hts hown hlk hml hK hP hl => ?_)
  have hl : lv_has ls 2 [(0, .int (iI w)), (1, .int (iI k))] := hl
  refine lv_iload_n hx hb dX3_joined_0 rfl (lv_at hl 0 rfl) ?_
  refine zv_bipush hx hb dX3_joined_1 (by decide) ?_
  refine zv_irem hx hb dX3_joined_3 (by omega) (by omega) (by omega) (by omega) ?_
  refine zv_if_le hx hb dX3_joined_4 (tgt := 26) (by decide) ⟨by omega, by omega⟩ (fun c_1 => ?_) (fun c_1 => ?_)
  · refine zv_bipush hx hb dX3_joined_26 (by decide) ?_
    refine lv_iload_n hx hb dX3_joined_28 rfl (lv_at hl 0 rfl) ?_
    refine zv_imul hx hb dX3_joined_29 ?_
    refine lv_iload_n hx hb dX3_joined_30 rfl (lv_at hl 1 rfl) ?_
    refine zv_iadd hx hb dX3_joined_31 ?_
    refine zv_iconst hx hb dX3_joined_32 ?_
    refine zv_iadd hx hb dX3_joined_33 ?_
    exact PM_iret hx hb hr hlk dX3_joined_34 (by first | exact wj_m1 (by omega) (by omega) (by omega) (by assumption) | exact wj_m2 (by omega) (by omega) (by omega) (by assumption) (by assumption) | exact wj_m3 (by omega) (by omega) (by omega) (by assumption) (by assumption))
  · refine lv_iload_n hx hb dX3_joined_7 rfl (lv_at hl 0 rfl) ?_
    refine zv_bipush hx hb dX3_joined_8 (by decide) ?_
    refine zv_irem hx hb dX3_joined_10 (by omega) (by omega) (by omega) (by omega) ?_
    refine zv_iconst hx hb dX3_joined_11 ?_
    refine zv_isub hx hb dX3_joined_12 ?_
    refine zv_iconst hx hb dX3_joined_13 ?_
    refine zv_ixor1 hx hb dX3_joined_14 (by omega) (by omega) ?_
    refine lv_iload_n hx hb dX3_joined_15 rfl (lv_at hl 1 rfl) ?_
    have hob := oppZ_b (k := w % 7 - 1) (by omega) (by omega)
    refine zv_icmp_ne hx hb dX3_joined_16 (tgt := 26) (by decide) ⟨by omega, by omega⟩ ⟨by omega, by omega⟩ (fun c_2 => ?_) (fun c_2 => ?_)
    · refine zv_bipush hx hb dX3_joined_26 (by decide) ?_
      refine lv_iload_n hx hb dX3_joined_28 rfl (lv_at hl 0 rfl) ?_
      refine zv_imul hx hb dX3_joined_29 ?_
      refine lv_iload_n hx hb dX3_joined_30 rfl (lv_at hl 1 rfl) ?_
      refine zv_iadd hx hb dX3_joined_31 ?_
      refine zv_iconst hx hb dX3_joined_32 ?_
      refine zv_iadd hx hb dX3_joined_33 ?_
      exact PM_iret hx hb hr hlk dX3_joined_34 (by first | exact wj_m1 (by omega) (by omega) (by omega) (by assumption) | exact wj_m2 (by omega) (by omega) (by omega) (by assumption) (by assumption) | exact wj_m3 (by omega) (by omega) (by omega) (by assumption) (by assumption))
    · refine lv_iload_n hx hb dX3_joined_19 rfl (lv_at hl 0 rfl) ?_
      refine zv_bipush hx hb dX3_joined_20 (by decide) ?_
      refine zv_idiv hx hb dX3_joined_22 (by omega) (by omega) (by omega) (by omega) ?_
      refine lv_goto (tgt := 34) hx hb dX3_joined_23 (by decide) ?_
      exact PM_iret hx hb hr hlk dX3_joined_34 (by first | exact wj_m1 (by omega) (by omega) (by omega) (by assumption) | exact wj_m2 (by omega) (by omega) (by omega) (by assumption) (by assumption) | exact wj_m3 (by omega) (by omega) (by omega) (by assumption) (by assumption))
set_option maxRecDepth 100000 in
set_option maxHeartbeats 4000000 in
theorem c_X3_size (l : Launch) (D : va_G) (cI cJ : ClassId) (w : Int) (hw0 : 0 ≤ w) (hw1 : w < 343) : PM l yX3_size (.code yX3_size cX3_size 3 (some .int)) 0 [.int (iI w)] D cI cJ [] (fun r => r = lenZ w) := by
  refine PM_of (by decide) rfl (Nat.le_of_ble_eq_true rfl) (fun p e s m below meth c ls hx hb hr hts hown hlk hml hK hP hl => ?_)
  have hl : lv_has ls 3 [(0, .int (iI w))] := hl
  refine zv_iconst hx hb dX3_size_0 ?_
  refine lv_istore_n (lv' := [(1, .int (iI 0)), (0, .int (iI w))]) hx hb dX3_size_1 rfl hl (by decide) rfl (fun ls hl => ?_)
  refine lv_iload_n hx hb dX3_size_2 rfl (lv_at hl 1 rfl) ?_
  refine lv_istore_n (lv' := [(2, .int (iI w)), (1, .int (iI 0)), (0, .int (iI w))]) hx hb dX3_size_3 rfl hl (by decide) rfl (fun ls hl => ?_)
  refine lv_iload_n hx hb dX3_size_4 rfl (lv_at hl 0 rfl) ?_
  refine zv_if_le hx hb dX3_size_5 (tgt := 19) (by decide) ⟨by omega, by omega⟩ (fun c_1 => ?_) (fun c_1 => ?_)
  · refine lv_iload_n hx hb dX3_size_19 rfl (lv_at hl 1 rfl) ?_
    exact PM_iret hx hb hr hlk dX3_size_20 (by unfold lenZ; (repeat' split) <;> omega)
  · refine zv_iinc (k := 1) (lv' := [(1, .int (iI 1)), (2, .int (iI w)), (0, .int (iI w))]) hx hb dX3_size_8 hl rfl (by decide) rfl (fun ls hl => ?_)
    refine lv_iload_n hx hb dX3_size_11 rfl (lv_at hl 1 rfl) ?_
    refine zv_bipush hx hb dX3_size_12 (by decide) ?_
    refine zv_idiv hx hb dX3_size_14 (by omega) (by omega) (by omega) (by omega) ?_
    refine lv_istore_n (lv' := [(2, .int (iI (w / 7))), (1, .int (iI 1)), (0, .int (iI w))]) hx hb dX3_size_15 rfl hl (by decide) rfl (fun ls hl => ?_)
    refine lv_goto (tgt := 4) hx hb dX3_size_16 (by decide) ?_
    refine lv_iload_n hx hb dX3_size_4 rfl (lv_at hl 0 rfl) ?_
    refine zv_if_le hx hb dX3_size_5 (tgt := 19) (by decide) ⟨by omega, by omega⟩ (fun c_2 => ?_) (fun c_2 => ?_)
    · refine lv_iload_n hx hb dX3_size_19 rfl (lv_at hl 1 rfl) ?_
      exact PM_iret hx hb hr hlk dX3_size_20 (by unfold lenZ; (repeat' split) <;> omega)
    · refine zv_iinc (k := 1) (lv' := [(1, .int (iI 2)), (2, .int (iI (w / 7))), (0, .int (iI w))]) hx hb dX3_size_8 hl rfl (by decide) rfl (fun ls hl => ?_)
      refine lv_iload_n hx hb dX3_size_11 rfl (lv_at hl 1 rfl) ?_
      refine zv_bipush hx hb dX3_size_12 (by decide) ?_
      refine zv_idiv hx hb dX3_size_14 (by omega) (by omega) (by omega) (by omega) ?_
      refine lv_istore_n (lv' := [(2, .int (iI ((w / 7) / 7))), (1, .int (iI 2)), (0, .int (iI w))]) hx hb dX3_size_15 rfl hl (by decide) rfl (fun ls hl => ?_)
      refine lv_goto (tgt := 4) hx hb dX3_size_16 (by decide) ?_
      refine lv_iload_n hx hb dX3_size_4 rfl (lv_at hl 0 rfl) ?_
      refine zv_if_le hx hb dX3_size_5 (tgt := 19) (by decide) ⟨by omega, by omega⟩ (fun c_3 => ?_) (fun c_3 => ?_)
      · refine lv_iload_n hx hb dX3_size_19 rfl (lv_at hl 1 rfl) ?_
        exact PM_iret hx hb hr hlk dX3_size_20 (by unfold lenZ; (repeat' split) <;> omega)
      · refine zv_iinc (k := 1) (lv' := [(1, .int (iI 3)), (2, .int (iI ((w / 7) / 7))), (0, .int (iI w))]) hx hb dX3_size_8 hl rfl (by decide) rfl (fun ls hl => ?_)
        refine lv_iload_n hx hb dX3_size_11 rfl (lv_at hl 1 rfl) ?_
        refine zv_bipush hx hb dX3_size_12 (by decide) ?_
        refine zv_idiv hx hb dX3_size_14 (by omega) (by omega) (by omega) (by omega) ?_
        refine lv_istore_n (lv' := [(2, .int (iI (((w / 7) / 7) / 7))), (1, .int (iI 3)), (0, .int (iI w))]) hx hb dX3_size_15 rfl hl (by decide) rfl (fun ls hl => ?_)
        refine lv_goto (tgt := 4) hx hb dX3_size_16 (by decide) ?_
        refine lv_iload_n hx hb dX3_size_4 rfl (lv_at hl 0 rfl) ?_
        refine zv_if_le hx hb dX3_size_5 (tgt := 19) (by decide) ⟨by omega, by omega⟩ (fun c_4 => ?_) (fun c_4 => by exfalso; omega)
        refine lv_iload_n hx hb dX3_size_19 rfl (lv_at hl 1 rfl) ?_
        exact PM_iret hx hb hr hlk dX3_size_20 (by unfold lenZ; (repeat' split) <;> omega)
set_option maxRecDepth 100000 in
set_option maxHeartbeats 4000000 in
theorem c_X3_isSquare (l : Launch) (D : va_G) (cI cJ : ClassId) (mm ac ar al aq ab : Nat) (th C R lim np qb qs wd sm : Int) (gc gr : Nat → Int) (N : Int → Int) (a b : Int) (hM : MdOK C R np N gc gr) (ha1 : -2147483648 ≤ a) (ha2 : a < 2147483648) (hb1 : -2147483648 ≤ b) (hb2 : b < 2147483648) : PM l yX3_isSquare (.code yX3_isSquare cX3_isSquare 3 (some .boolean)) 1 [.ref mm, .int (iI a), .int (iI b)] D cI cJ [(mm, .inr (3, [.int (iI th), .int (iI C), .int (iI R), .int (iI lim), .int (iI np), .ref ac, .ref ar, .int (iI qb), .int (iI qs), .int (iI wd), .int (iI sm), .ref al, .ref aq, .ref ab])), (ac, .inl (cI, 3, .inl (aI gc))), (ar, .inl (cI, 3, .inl (aI gr)))] (fun r => (r = 1 ∧ (0 ≤ a ∧ a < C ∧ 0 ≤ b ∧ b < R)) ∨ (r = 0 ∧ ¬ (0 ≤ a ∧ a < C ∧ 0 ≤ b ∧ b < R))) := by
  obtain ⟨hC1, hC2, hR1, hR2, hp1, hp2, -, -⟩ := id hM
  refine PM_of (by decide) rfl (Nat.le_of_ble_eq_true rfl) (fun p e s m below meth c ls hx hb hr hts hown hlk hml hK hP hl => ?_)
  have hl : lv_has ls 3 [(0, .ref mm), (1, .int (iI a)), (2, .int (iI b))] := hl
  refine lv_iload_n hx hb dX3_isSquare_0 rfl (lv_at hl 1 rfl) ?_
  refine zv_iconst hx hb dX3_isSquare_1 ?_
  refine lv_aload_n hx hb dX3_isSquare_2 rfl (lv_at hl 0 rfl) ?_
  refine va_get (D := D) (ci := 3) (v := .int (iI C)) (C := RX3) (T := TX3) (N := 14) hx hb hts uX3 hown hK.1 hP 0 rfl rfl 1 (by decide) (hts _ q_527) (fun _ h9 => h9) rfl dX3_isSquare_3 ?_
  refine zv_iconst hx hb dX3_isSquare_6 ?_
  refine zv_isub hx hb dX3_isSquare_7 ?_
  refine zc_S (As := [.int (iI a), .int (iI 0), .int (iI (C - 1))]) (rest := []) (ws := [(mm, .inr (3, [.int (iI th), .int (iI C), .int (iI R), .int (iI lim), .int (iI np), .ref ac, .ref ar, .int (iI qb), .int (iI qs), .int (iI wd), .int (iI sm), .ref al, .ref aq, .ref ab])), (ac, .inl (cI, 3, .inl (aI gc))), (ar, .inl (cI, 3, .inl (aI gr)))]) (n := 3) hx hb (hml.trans hl.1.symm) hts hown hK hP (c_X3_in l D cI cJ a 0 (C - 1) (⟨by omega, by omega⟩) (⟨by omega, by omega⟩) (⟨by omega, by omega⟩)) (gd_S q_497 q_498 q_6 q_499) (by decide +kernel) rfl ⟨Nat.le_of_ble_eq_true rfl, Nat.le_of_ble_eq_true rfl⟩ ⟨Nat.zero_le _, Nat.zero_le _⟩ [] rfl rfl (Nat.le_of_ble_eq_true rfl) dX3_isSquare_8 (fun r_1 hr_1 => ?_)
  refine zv_if_eq hx hb dX3_isSquare_11 (tgt := 32) (by decide) ⟨by omega, by omega⟩ (fun c_2 => ?_) (fun c_2 => ?_)
  · refine zv_iconst hx hb dX3_isSquare_32 ?_
    exact PM_zret hx hb hr hlk dX3_isSquare_33 (by first | rfl | decide) (by omega)
  · refine lv_iload_n hx hb dX3_isSquare_14 rfl (lv_at hl 2 rfl) ?_
    refine zv_iconst hx hb dX3_isSquare_15 ?_
    refine lv_aload_n hx hb dX3_isSquare_16 rfl (lv_at hl 0 rfl) ?_
    refine va_get (D := D) (ci := 3) (v := .int (iI R)) (C := RX3) (T := TX3) (N := 14) hx hb hts uX3 hown hK.1 hP 0 rfl rfl 2 (by decide) (hts _ q_528) (fun _ h9 => h9) rfl dX3_isSquare_17 ?_
    refine zv_iconst hx hb dX3_isSquare_20 ?_
    refine zv_isub hx hb dX3_isSquare_21 ?_
    refine zc_S (As := [.int (iI b), .int (iI 0), .int (iI (R - 1))]) (rest := []) (ws := [(mm, .inr (3, [.int (iI th), .int (iI C), .int (iI R), .int (iI lim), .int (iI np), .ref ac, .ref ar, .int (iI qb), .int (iI qs), .int (iI wd), .int (iI sm), .ref al, .ref aq, .ref ab])), (ac, .inl (cI, 3, .inl (aI gc))), (ar, .inl (cI, 3, .inl (aI gr)))]) (n := 3) hx hb (hml.trans hl.1.symm) hts hown hK hP (c_X3_in l D cI cJ b 0 (R - 1) (⟨by omega, by omega⟩) (⟨by omega, by omega⟩) (⟨by omega, by omega⟩)) (gd_S q_497 q_498 q_6 q_499) (by decide +kernel) rfl ⟨Nat.le_of_ble_eq_true rfl, Nat.le_of_ble_eq_true rfl⟩ ⟨Nat.zero_le _, Nat.zero_le _⟩ [] rfl rfl (Nat.le_of_ble_eq_true rfl) dX3_isSquare_22 (fun r_3 hr_3 => ?_)
    refine zv_if_eq hx hb dX3_isSquare_25 (tgt := 32) (by decide) ⟨by omega, by omega⟩ (fun c_4 => ?_) (fun c_4 => ?_)
    · refine zv_iconst hx hb dX3_isSquare_32 ?_
      exact PM_zret hx hb hr hlk dX3_isSquare_33 (by first | rfl | decide) (by omega)
    · refine zv_iconst hx hb dX3_isSquare_28 ?_
      refine lv_goto (tgt := 33) hx hb dX3_isSquare_29 (by decide) ?_
      exact PM_zret hx hb hr hlk dX3_isSquare_33 (by first | rfl | decide) (by omega)
set_option maxRecDepth 100000 in
set_option maxHeartbeats 4000000 in
theorem c_X3_isPillar (l : Launch) (D : va_G) (cI cJ : ClassId) (mm ac ar al aq ab : Nat) (th C R lim np qb qs wd sm : Int) (gc gr : Nat → Int) (N : Int → Int) (q : Int) (hM : MdOK C R np N gc gr) (hq1 : -2147483648 ≤ q) (hq2 : q < 2147483648) : PM l yX3_isPillar (.code yX3_isPillar cX3_isPillar 3 (some .boolean)) 1 [.ref mm, .int (iI q)] D cI cJ [(mm, .inr (3, [.int (iI th), .int (iI C), .int (iI R), .int (iI lim), .int (iI np), .ref ac, .ref ar, .int (iI qb), .int (iI qs), .int (iI wd), .int (iI sm), .ref al, .ref aq, .ref ab])), (ac, .inl (cI, 3, .inl (aI gc))), (ar, .inl (cI, 3, .inl (aI gr)))] (fun r => (r = 1 ∨ r = 0) ∧ ∀ a b, 0 ≤ a → a < C → 0 ≤ b → b < R → q = 7 * b + a → ((r = 1 ∧ N (a * 7 + b) ≠ -1) ∨ (r = 0 ∧ N (a * 7 + b) = -1))) := by
  obtain ⟨hC1, hC2, hR1, hR2, hp1, hp2, -, -⟩ := id hM
  refine PM_of (by decide) rfl (Nat.le_of_ble_eq_true rfl) (fun p e s m below meth c ls hx hb hr hts hown hlk hml hK hP hl => ?_)
  have hl : lv_has ls 3 [(0, .ref mm), (1, .int (iI q))] := hl
  refine zv_iconst hx hb dX3_isPillar_0 ?_
  refine lv_istore_n (lv' := [(2, .int (iI 0)), (0, .ref mm), (1, .int (iI q))]) hx hb dX3_isPillar_1 rfl hl (by decide) rfl (fun ls hl => ?_)
  have loop2 : ∀ (n : Nat) (i : Int), (0 ≤ i) → (i ≤ np) → (∀ j : Nat, (j : Int) < i → ¬ 7 * gr j + gc j = q) → (np - i < (n : Int)) → ∀ ls : Array Slot, lv_has ls 3 [(0, .ref mm), (1, .int (iI q)), (2, .int (iI i))] → W p l e (lvl 1) s m [.ref mm, .int (iI q)].toArray below meth c s.heap [] 0 0 (MQ below (PQ (fun r => (r = 1 ∨ r = 0) ∧ ∀ a b, 0 ≤ a → a < C → 0 ≤ b → b < R → q = 7 * b + a → ((r = 1 ∧ N (a * 7 + b) ≠ -1) ∨ (r = 0 ∧ N (a * 7 + b) = -1)))) [.ref mm, .int (iI q)].toArray s 0 0 (fun _ => False)) (F0 m 2 ls []) := by
    intro n
    induction n with
    | zero => intro i hi0 hin hno hms; exfalso; omega
    | succ n ih =>
      intro i hi0 hin hno hms ls hl
      refine lv_iload_n hx hb dX3_isPillar_2 rfl (lv_at hl 2 rfl) ?_
      refine lv_aload_n hx hb dX3_isPillar_3 rfl (lv_at hl 0 rfl) ?_
      refine va_get (D := D) (ci := 3) (v := .int (iI np)) (C := RX3) (T := TX3) (N := 14) hx hb hts uX3 hown hK.1 hP 0 rfl rfl 4 (by decide) (hts _ q_530) (fun _ h9 => h9) rfl dX3_isPillar_4 ?_
      refine zv_icmp_ge hx hb dX3_isPillar_7 (tgt := 37) (by decide) ⟨by omega, by omega⟩ ⟨by omega, by omega⟩ (fun c_1 => ?_) (fun c_1 => ?_)
      · refine zv_iconst hx hb dX3_isPillar_37 ?_
        exact PM_zret hx hb hr hlk dX3_isPillar_38 (by first | rfl | decide) (⟨Or.inr rfl, fun a b a0 a1 b0 b1 hq => by
      rcases hM.of (a * 7 + b) with g | ⟨g1, g2, g3⟩
      · exact Or.inr ⟨rfl, g⟩
      · exfalso
        have hat := hM.at g1 g2
        exact hno (N (a * 7 + b)).toNat (by omega) (by omega)⟩)
      · refine lv_aload_n hx hb dX3_isPillar_10 rfl (lv_at hl 0 rfl) ?_
        refine va_get (D := D) (ci := 3) (v := .ref ac) (C := RX3) (T := TX3) (N := 14) hx hb hts uX3 hown hK.1 hP 0 rfl rfl 5 (by decide) (hts _ q_531) (fun _ h9 => h9) rfl dX3_isPillar_11 ?_
        have hat := hM.at (i := i) (by omega) (by omega)
        refine lv_iload_n hx hb dX3_isPillar_14 rfl (lv_at hl 2 rfl) ?_
        refine zv_iald hx hb hK.1 hP 1 0 rfl rfl (by omega) (by omega) (by omega) dX3_isPillar_15 ?_
        refine lv_aload_n hx hb dX3_isPillar_16 rfl (lv_at hl 0 rfl) ?_
        refine va_get (D := D) (ci := 3) (v := .ref ar) (C := RX3) (T := TX3) (N := 14) hx hb hts uX3 hown hK.1 hP 0 rfl rfl 6 (by decide) (hts _ q_532) (fun _ h9 => h9) rfl dX3_isPillar_17 ?_
        refine lv_iload_n hx hb dX3_isPillar_20 rfl (lv_at hl 2 rfl) ?_
        refine zv_iald hx hb hK.1 hP 2 0 rfl rfl (by omega) (by omega) (by omega) dX3_isPillar_21 ?_
        refine zc_S (As := [.int (iI (gc (i).toNat)), .int (iI (gr (i).toNat))]) (rest := []) (ws := [(mm, .inr (3, [.int (iI th), .int (iI C), .int (iI R), .int (iI lim), .int (iI np), .ref ac, .ref ar, .int (iI qb), .int (iI qs), .int (iI wd), .int (iI sm), .ref al, .ref aq, .ref ab])), (ac, .inl (cI, 3, .inl (aI gc))), (ar, .inl (cI, 3, .inl (aI gr)))]) (n := 2) hx hb (hml.trans hl.1.symm) hts hown hK hP (c_X3_squareOf l D cI cJ (gc (i).toNat) (gr (i).toNat)) (gd_S q_500 q_501 q_6 q_502) (by decide +kernel) rfl ⟨Nat.le_of_ble_eq_true rfl, Nat.le_of_ble_eq_true rfl⟩ ⟨Nat.zero_le _, Nat.zero_le _⟩ [] rfl rfl (Nat.le_of_ble_eq_true rfl) dX3_isPillar_22 (fun r_2 hr_2 => ?_)
        subst hr_2
        refine lv_iload_n hx hb dX3_isPillar_25 rfl (lv_at hl 1 rfl) ?_
        refine zv_icmp_ne hx hb dX3_isPillar_26 (tgt := 31) (by decide) ⟨by omega, by omega⟩ ⟨by omega, by omega⟩ (fun c_3 => ?_) (fun c_3 => ?_)
        · refine zv_iinc (k := 2) (lv' := [(2, .int (iI (i + 1))), (0, .ref mm), (1, .int (iI q))]) hx hb dX3_isPillar_31 hl rfl (by decide) rfl (fun ls hl => ?_)
          refine lv_goto (tgt := 2) hx hb dX3_isPillar_34 (by decide) ?_
          exact ih (i + 1) (by omega) (by omega) (fun j hj => by rcases jlt (by omega) hj with g | rfl; exact hno j g; assumption) (by omega) ls (lv_sub hl [1, 2, 0] rfl)
        · refine zv_iconst hx hb dX3_isPillar_29 ?_
          exact PM_zret hx hb hr hlk dX3_isPillar_30 (by first | rfl | decide) (⟨Or.inl rfl, fun a b a0 a1 b0 b1 hq => by
      have e1 : gc i.toNat = a := by omega
      have e2 : gr i.toNat = b := by omega
      rw [e1, e2] at hat; omega⟩)
  exact loop2 4 0 (by omega) (by omega) (fun j hj => absurd hj (by omega)) (by omega) ls (lv_sub hl [1, 2, 0] rfl)
set_option maxRecDepth 100000 in
set_option maxHeartbeats 4000000 in
theorem c_X3_pillarBelow (l : Launch) (D : va_G) (cI cJ : ClassId) (mm ac ar al aq ab : Nat) (th C R lim np qb qs wd sm : Int) (gc gr : Nat → Int) (N : Int → Int) (a b : Int) (hM : MdOK C R np N gc gr) (ha0 : 0 ≤ a) (ha1 : a < C) (hb0 : 0 ≤ b) (hb1 : b < R) : PM l yX3_pillarBelow (.code yX3_pillarBelow cX3_pillarBelow 6 (some .int)) 1 [.ref mm, .int (iI a), .int (iI b)] D cI cJ [(mm, .inr (3, [.int (iI th), .int (iI C), .int (iI R), .int (iI lim), .int (iI np), .ref ac, .ref ar, .int (iI qb), .int (iI qs), .int (iI wd), .int (iI sm), .ref al, .ref aq, .ref ab])), (ac, .inl (cI, 3, .inl (aI gc))), (ar, .inl (cI, 3, .inl (aI gr)))] (BelP N gr R np a b) := by
  obtain ⟨hC1, hC2, hR1, hR2, hp1, hp2, -, -⟩ := id hM
  refine PM_of (by decide) rfl (Nat.le_of_ble_eq_true rfl) (fun p e s m below meth c ls hx hb hr hts hown hlk hml hK hP hl => ?_)
  have hl : lv_has ls 6 [(0, .ref mm), (1, .int (iI a)), (2, .int (iI b))] := hl
  refine zv_iconst hx hb dX3_pillarBelow_0 ?_
  refine lv_istore_n (lv' := [(3, .int (iI (-1))), (0, .ref mm), (1, .int (iI a)), (2, .int (iI b))]) hx hb dX3_pillarBelow_1 rfl hl (by decide) rfl (fun ls hl => ?_)
  refine zv_iconst hx hb dX3_pillarBelow_2 ?_
  refine lv_istore (lv' := [(4, .int (iI 0)), (3, .int (iI (-1))), (0, .ref mm), (1, .int (iI a)), (2, .int (iI b))]) hx hb dX3_pillarBelow_3 hl (by decide) rfl (fun ls hl => ?_)
  have loop5 : ∀ (n : Nat) (x i : Int), (0 ≤ i) → (i ≤ np) → (BelI gc gr a b i x) → (np - i < (n : Int)) → ∀ ls : Array Slot, lv_has ls 6 [(0, .ref mm), (1, .int (iI a)), (2, .int (iI b)), (3, .int (iI x)), (4, .int (iI i))] → W p l e (lvl 1) s m [.ref mm, .int (iI a), .int (iI b)].toArray below meth c s.heap [] 0 0 (MQ below (PQ (BelP N gr R np a b)) [.ref mm, .int (iI a), .int (iI b)].toArray s 0 0 (fun _ => False)) (F0 m 5 ls []) := by
    intro n
    induction n with
    | zero => intro x i hi0 hin hbl hms; exfalso; omega
    | succ n ih =>
      intro x i hi0 hin hbl hms ls hl
      have hbb := hbl.b
      refine lv_iload hx hb dX3_pillarBelow_5 (lv_at hl 4 rfl) ?_
      refine lv_aload_n hx hb dX3_pillarBelow_7 rfl (lv_at hl 0 rfl) ?_
      refine va_get (D := D) (ci := 3) (v := .int (iI np)) (C := RX3) (T := TX3) (N := 14) hx hb hts uX3 hown hK.1 hP 0 rfl rfl 4 (by decide) (hts _ q_530) (fun _ h9 => h9) rfl dX3_pillarBelow_8 ?_
      refine zv_icmp_ge hx hb dX3_pillarBelow_11 (tgt := 82) (by decide) ⟨by omega, by omega⟩ ⟨by omega, by omega⟩ (fun c_1 => ?_) (fun c_1 => ?_)
      · refine lv_iload_n hx hb dX3_pillarBelow_82 rfl (lv_at hl 3 rfl) ?_
        exact PM_iret hx hb hr hlk dX3_pillarBelow_83 (by rw [show i = np by omega] at hbl; exact hbl.p hM (by omega) (by omega) (by omega))
      · refine lv_aload_n hx hb dX3_pillarBelow_14 rfl (lv_at hl 0 rfl) ?_
        refine va_get (D := D) (ci := 3) (v := .ref ac) (C := RX3) (T := TX3) (N := 14) hx hb hts uX3 hown hK.1 hP 0 rfl rfl 5 (by decide) (hts _ q_531) (fun _ h9 => h9) rfl dX3_pillarBelow_15 ?_
        have hat := hM.at (i := i) (by omega) (by omega)
        refine lv_iload hx hb dX3_pillarBelow_18 (lv_at hl 4 rfl) ?_
        refine zv_iald hx hb hK.1 hP 1 0 rfl rfl (by omega) (by omega) (by omega) dX3_pillarBelow_20 ?_
        refine lv_iload_n hx hb dX3_pillarBelow_21 rfl (lv_at hl 1 rfl) ?_
        refine zv_icmp_ne hx hb dX3_pillarBelow_22 (tgt := 40) (by decide) ⟨by omega, by omega⟩ ⟨by omega, by omega⟩ (fun c_2 => ?_) (fun c_2 => ?_)
        · refine zv_iconst hx hb dX3_pillarBelow_40 ?_
          refine lv_istore (lv' := [(5, .int (iI 0)), (0, .ref mm), (1, .int (iI a)), (2, .int (iI b)), (3, .int (iI x)), (4, .int (iI i))]) hx hb dX3_pillarBelow_41 hl (by decide) rfl (fun ls hl => ?_)
          refine lv_iload hx hb dX3_pillarBelow_43 (lv_at hl 0 rfl) ?_
          refine zv_if_eq hx hb dX3_pillarBelow_45 (tgt := 74) (by decide) ⟨by omega, by omega⟩ (fun c_3 => ?_) (fun c_3 => by exfalso; omega)
          refine lv_iload_n hx hb dX3_pillarBelow_74 rfl (lv_at hl 4 rfl) ?_
          refine lv_istore_n (lv' := [(3, .int (iI x)), (5, .int (iI 0)), (0, .ref mm), (1, .int (iI a)), (2, .int (iI b)), (4, .int (iI i))]) hx hb dX3_pillarBelow_75 rfl hl (by decide) rfl (fun ls hl => ?_)
          refine zv_iinc (k := 5) (lv' := [(4, .int (iI (i + 1))), (3, .int (iI x)), (5, .int (iI 0)), (0, .ref mm), (1, .int (iI a)), (2, .int (iI b))]) hx hb dX3_pillarBelow_76 hl rfl (by decide) rfl (fun ls hl => ?_)
          refine lv_goto (tgt := 5) hx hb dX3_pillarBelow_79 (by decide) ?_
          exact ih x (i + 1) (by omega) (by omega) (by first | exact hbl.no (by omega) (by omega) | exact hbl.new (by omega) (by omega) (by omega) (by omega) | exact hbl.old (by omega) (by omega) (by omega)) (by omega) ls (lv_sub hl [3, 4, 5, 1, 0] rfl)
        · refine lv_aload_n hx hb dX3_pillarBelow_25 rfl (lv_at hl 0 rfl) ?_
          refine va_get (D := D) (ci := 3) (v := .ref ar) (C := RX3) (T := TX3) (N := 14) hx hb hts uX3 hown hK.1 hP 0 rfl rfl 6 (by decide) (hts _ q_532) (fun _ h9 => h9) rfl dX3_pillarBelow_26 ?_
          refine lv_iload hx hb dX3_pillarBelow_29 (lv_at hl 4 rfl) ?_
          refine zv_iald hx hb hK.1 hP 2 0 rfl rfl (by omega) (by omega) (by omega) dX3_pillarBelow_31 ?_
          refine lv_iload_n hx hb dX3_pillarBelow_32 rfl (lv_at hl 2 rfl) ?_
          refine zv_icmp_le hx hb dX3_pillarBelow_33 (tgt := 40) (by decide) ⟨by omega, by omega⟩ ⟨by omega, by omega⟩ (fun c_4 => ?_) (fun c_4 => ?_)
          · refine zv_iconst hx hb dX3_pillarBelow_40 ?_
            refine lv_istore (lv' := [(5, .int (iI 0)), (0, .ref mm), (1, .int (iI a)), (2, .int (iI b)), (3, .int (iI x)), (4, .int (iI i))]) hx hb dX3_pillarBelow_41 hl (by decide) rfl (fun ls hl => ?_)
            refine lv_iload hx hb dX3_pillarBelow_43 (lv_at hl 0 rfl) ?_
            refine zv_if_eq hx hb dX3_pillarBelow_45 (tgt := 74) (by decide) ⟨by omega, by omega⟩ (fun c_5 => ?_) (fun c_5 => by exfalso; omega)
            refine lv_iload_n hx hb dX3_pillarBelow_74 rfl (lv_at hl 4 rfl) ?_
            refine lv_istore_n (lv' := [(3, .int (iI x)), (5, .int (iI 0)), (0, .ref mm), (1, .int (iI a)), (2, .int (iI b)), (4, .int (iI i))]) hx hb dX3_pillarBelow_75 rfl hl (by decide) rfl (fun ls hl => ?_)
            refine zv_iinc (k := 5) (lv' := [(4, .int (iI (i + 1))), (3, .int (iI x)), (5, .int (iI 0)), (0, .ref mm), (1, .int (iI a)), (2, .int (iI b))]) hx hb dX3_pillarBelow_76 hl rfl (by decide) rfl (fun ls hl => ?_)
            refine lv_goto (tgt := 5) hx hb dX3_pillarBelow_79 (by decide) ?_
            exact ih x (i + 1) (by omega) (by omega) (by first | exact hbl.no (by omega) (by omega) | exact hbl.new (by omega) (by omega) (by omega) (by omega) | exact hbl.old (by omega) (by omega) (by omega)) (by omega) ls (lv_sub hl [3, 4, 5, 1, 0] rfl)
          · refine zv_iconst hx hb dX3_pillarBelow_36 ?_
            refine lv_goto (tgt := 41) hx hb dX3_pillarBelow_37 (by decide) ?_
            refine lv_istore (lv' := [(5, .int (iI 1)), (0, .ref mm), (1, .int (iI a)), (2, .int (iI b)), (3, .int (iI x)), (4, .int (iI i))]) hx hb dX3_pillarBelow_41 hl (by decide) rfl (fun ls hl => ?_)
            refine lv_iload hx hb dX3_pillarBelow_43 (lv_at hl 0 rfl) ?_
            refine zv_if_eq hx hb dX3_pillarBelow_45 (tgt := 74) (by decide) ⟨by omega, by omega⟩ (fun c_6 => by exfalso; omega) (fun c_6 => ?_)
            refine lv_iload_n hx hb dX3_pillarBelow_48 rfl (lv_at hl 4 rfl) ?_
            refine zv_iconst hx hb dX3_pillarBelow_49 ?_
            refine zv_icmp_eq hx hb dX3_pillarBelow_50 (tgt := 69) (by decide) ⟨by omega, by omega⟩ ⟨by omega, by omega⟩ (fun c_7 => ?_) (fun c_7 => ?_)
            · refine lv_iload hx hb dX3_pillarBelow_69 (lv_at hl 5 rfl) ?_
              refine lv_goto (tgt := 75) hx hb dX3_pillarBelow_71 (by decide) ?_
              refine lv_istore_n (lv' := [(3, .int (iI i)), (5, .int (iI 1)), (0, .ref mm), (1, .int (iI a)), (2, .int (iI b)), (4, .int (iI i))]) hx hb dX3_pillarBelow_75 rfl hl (by decide) rfl (fun ls hl => ?_)
              refine zv_iinc (k := 5) (lv' := [(4, .int (iI (i + 1))), (3, .int (iI i)), (5, .int (iI 1)), (0, .ref mm), (1, .int (iI a)), (2, .int (iI b))]) hx hb dX3_pillarBelow_76 hl rfl (by decide) rfl (fun ls hl => ?_)
              refine lv_goto (tgt := 5) hx hb dX3_pillarBelow_79 (by decide) ?_
              exact ih i (i + 1) (by omega) (by omega) (by first | exact hbl.no (by omega) (by omega) | exact hbl.new (by omega) (by omega) (by omega) (by omega) | exact hbl.old (by omega) (by omega) (by omega)) (by omega) ls (lv_sub hl [3, 4, 5, 1, 0] rfl)
            · refine lv_aload_n hx hb dX3_pillarBelow_53 rfl (lv_at hl 1 rfl) ?_
              refine va_get (D := D) (ci := 3) (v := .ref ar) (C := RX3) (T := TX3) (N := 14) hx hb hts uX3 hown hK.1 hP 0 rfl rfl 6 (by decide) (hts _ q_532) (fun _ h9 => h9) rfl dX3_pillarBelow_54 ?_
              refine lv_iload hx hb dX3_pillarBelow_57 (lv_at hl 5 rfl) ?_
              refine zv_iald hx hb hK.1 hP 2 0 rfl rfl (by omega) (by omega) (by omega) dX3_pillarBelow_59 ?_
              refine lv_aload_n hx hb dX3_pillarBelow_60 rfl (lv_at hl 1 rfl) ?_
              refine va_get (D := D) (ci := 3) (v := .ref ar) (C := RX3) (T := TX3) (N := 14) hx hb hts uX3 hown hK.1 hP 0 rfl rfl 6 (by decide) (hts _ q_532) (fun _ h9 => h9) rfl dX3_pillarBelow_61 ?_
              have hax := hM.at (i := x) (by omega) (by omega)
              refine lv_iload_n hx hb dX3_pillarBelow_64 rfl (lv_at hl 4 rfl) ?_
              refine zv_iald hx hb hK.1 hP 2 0 rfl rfl (by omega) (by omega) (by omega) dX3_pillarBelow_65 ?_
              refine zv_icmp_ge hx hb dX3_pillarBelow_66 (tgt := 74) (by decide) ⟨by omega, by omega⟩ ⟨by omega, by omega⟩ (fun c_8 => ?_) (fun c_8 => ?_)
              · refine lv_iload_n hx hb dX3_pillarBelow_74 rfl (lv_at hl 4 rfl) ?_
                refine lv_istore_n (lv' := [(3, .int (iI x)), (5, .int (iI 1)), (0, .ref mm), (1, .int (iI a)), (2, .int (iI b)), (4, .int (iI i))]) hx hb dX3_pillarBelow_75 rfl hl (by decide) rfl (fun ls hl => ?_)
                refine zv_iinc (k := 5) (lv' := [(4, .int (iI (i + 1))), (3, .int (iI x)), (5, .int (iI 1)), (0, .ref mm), (1, .int (iI a)), (2, .int (iI b))]) hx hb dX3_pillarBelow_76 hl rfl (by decide) rfl (fun ls hl => ?_)
                refine lv_goto (tgt := 5) hx hb dX3_pillarBelow_79 (by decide) ?_
                exact ih x (i + 1) (by omega) (by omega) (by first | exact hbl.no (by omega) (by omega) | exact hbl.new (by omega) (by omega) (by omega) (by omega) | exact hbl.old (by omega) (by omega) (by omega)) (by omega) ls (lv_sub hl [3, 4, 5, 1, 0] rfl)
              · refine lv_iload hx hb dX3_pillarBelow_69 (lv_at hl 5 rfl) ?_
                refine lv_goto (tgt := 75) hx hb dX3_pillarBelow_71 (by decide) ?_
                refine lv_istore_n (lv' := [(3, .int (iI i)), (5, .int (iI 1)), (0, .ref mm), (1, .int (iI a)), (2, .int (iI b)), (4, .int (iI i))]) hx hb dX3_pillarBelow_75 rfl hl (by decide) rfl (fun ls hl => ?_)
                refine zv_iinc (k := 5) (lv' := [(4, .int (iI (i + 1))), (3, .int (iI i)), (5, .int (iI 1)), (0, .ref mm), (1, .int (iI a)), (2, .int (iI b))]) hx hb dX3_pillarBelow_76 hl rfl (by decide) rfl (fun ls hl => ?_)
                refine lv_goto (tgt := 5) hx hb dX3_pillarBelow_79 (by decide) ?_
                exact ih i (i + 1) (by omega) (by omega) (by first | exact hbl.no (by omega) (by omega) | exact hbl.new (by omega) (by omega) (by omega) (by omega) | exact hbl.old (by omega) (by omega) (by omega)) (by omega) ls (lv_sub hl [3, 4, 5, 1, 0] rfl)
  exact loop5 4 (-1) 0 (by omega) (by omega) BelI.z (by omega) ls (lv_sub hl [2, 3, 4, 1, 0] rfl)
set_option maxRecDepth 100000 in
set_option maxHeartbeats 4000000 in
theorem c_X3_pillarAbove (l : Launch) (D : va_G) (cI cJ : ClassId) (mm ac ar al aq ab : Nat) (th C R lim np qb qs wd sm : Int) (gc gr : Nat → Int) (N : Int → Int) (a b v : Int) (hM : MdOK C R np N gc gr) (ha0 : 0 ≤ a) (ha1 : a < C) (hb0 : 0 ≤ b) (hb1 : b < R) (hv0 : 0 ≤ v) (hv1 : v ≤ 7) : PM l yX3_pillarAbove (.code yX3_pillarAbove cX3_pillarAbove 7 (some .int)) 1 [.ref mm, .int (iI a), .int (iI b), .int (iI v)] D cI cJ [(mm, .inr (3, [.int (iI th), .int (iI C), .int (iI R), .int (iI lim), .int (iI np), .ref ac, .ref ar, .int (iI qb), .int (iI qs), .int (iI wd), .int (iI sm), .ref al, .ref aq, .ref ab])), (ac, .inl (cI, 3, .inl (aI gc))), (ar, .inl (cI, 3, .inl (aI gr)))] (AbvP N gr np a b v) := by
  obtain ⟨hC1, hC2, hR1, hR2, hp1, hp2, -, -⟩ := id hM
  refine PM_of (by decide) rfl (Nat.le_of_ble_eq_true rfl) (fun p e s m below meth c ls hx hb hr hts hown hlk hml hK hP hl => ?_)
  have hl : lv_has ls 7 [(0, .ref mm), (1, .int (iI a)), (2, .int (iI b)), (3, .int (iI v))] := hl
  refine zv_iconst hx hb dX3_pillarAbove_0 ?_
  refine lv_istore (lv' := [(4, .int (iI (-1))), (0, .ref mm), (1, .int (iI a)), (2, .int (iI b)), (3, .int (iI v))]) hx hb dX3_pillarAbove_1 hl (by decide) rfl (fun ls hl => ?_)
  refine zv_iconst hx hb dX3_pillarAbove_3 ?_
  refine lv_istore (lv' := [(5, .int (iI 0)), (4, .int (iI (-1))), (0, .ref mm), (1, .int (iI a)), (2, .int (iI b)), (3, .int (iI v))]) hx hb dX3_pillarAbove_4 hl (by decide) rfl (fun ls hl => ?_)
  have loop6 : ∀ (n : Nat) (x i : Int), (0 ≤ i) → (i ≤ np) → (AbvI gc gr a b v i x) → (np - i < (n : Int)) → ∀ ls : Array Slot, lv_has ls 7 [(0, .ref mm), (1, .int (iI a)), (2, .int (iI b)), (3, .int (iI v)), (4, .int (iI x)), (5, .int (iI i))] → W p l e (lvl 1) s m [.ref mm, .int (iI a), .int (iI b), .int (iI v)].toArray below meth c s.heap [] 0 0 (MQ below (PQ (AbvP N gr np a b v)) [.ref mm, .int (iI a), .int (iI b), .int (iI v)].toArray s 0 0 (fun _ => False)) (F0 m 6 ls []) := by
    intro n
    induction n with
    | zero => intro x i hi0 hin hbl hms; exfalso; omega
    | succ n ih =>
      intro x i hi0 hin hbl hms ls hl
      have hbb := hbl.b
      refine lv_iload hx hb dX3_pillarAbove_6 (lv_at hl 5 rfl) ?_
      refine lv_aload_n hx hb dX3_pillarAbove_8 rfl (lv_at hl 0 rfl) ?_
      refine va_get (D := D) (ci := 3) (v := .int (iI np)) (C := RX3) (T := TX3) (N := 14) hx hb hts uX3 hown hK.1 hP 0 rfl rfl 4 (by decide) (hts _ q_530) (fun _ h9 => h9) rfl dX3_pillarAbove_9 ?_
      refine zv_icmp_ge hx hb dX3_pillarAbove_12 (tgt := 98) (by decide) ⟨by omega, by omega⟩ ⟨by omega, by omega⟩ (fun c_1 => ?_) (fun c_1 => ?_)
      · refine lv_iload hx hb dX3_pillarAbove_98 (lv_at hl 4 rfl) ?_
        exact PM_iret hx hb hr hlk dX3_pillarAbove_100 (by rw [show i = np by omega] at hbl; exact hbl.p hM (by omega) (by omega) (by omega) (by omega))
      · refine lv_aload_n hx hb dX3_pillarAbove_15 rfl (lv_at hl 0 rfl) ?_
        refine va_get (D := D) (ci := 3) (v := .ref ac) (C := RX3) (T := TX3) (N := 14) hx hb hts uX3 hown hK.1 hP 0 rfl rfl 5 (by decide) (hts _ q_531) (fun _ h9 => h9) rfl dX3_pillarAbove_16 ?_
        have hat := hM.at (i := i) (by omega) (by omega)
        refine lv_iload hx hb dX3_pillarAbove_19 (lv_at hl 5 rfl) ?_
        refine zv_iald hx hb hK.1 hP 1 0 rfl rfl (by omega) (by omega) (by omega) dX3_pillarAbove_21 ?_
        refine lv_iload_n hx hb dX3_pillarAbove_22 rfl (lv_at hl 1 rfl) ?_
        refine zv_icmp_ne hx hb dX3_pillarAbove_23 (tgt := 52) (by decide) ⟨by omega, by omega⟩ ⟨by omega, by omega⟩ (fun c_2 => ?_) (fun c_2 => ?_)
        · refine zv_iconst hx hb dX3_pillarAbove_52 ?_
          refine lv_istore (lv' := [(6, .int (iI 0)), (0, .ref mm), (1, .int (iI a)), (2, .int (iI b)), (3, .int (iI v)), (4, .int (iI x)), (5, .int (iI i))]) hx hb dX3_pillarAbove_53 hl (by decide) rfl (fun ls hl => ?_)
          refine lv_iload hx hb dX3_pillarAbove_55 (lv_at hl 0 rfl) ?_
          refine zv_if_eq hx hb dX3_pillarAbove_57 (tgt := 88) (by decide) ⟨by omega, by omega⟩ (fun c_3 => ?_) (fun c_3 => by exfalso; omega)
          refine lv_iload hx hb dX3_pillarAbove_88 (lv_at hl 5 rfl) ?_
          refine lv_istore (lv' := [(4, .int (iI x)), (6, .int (iI 0)), (0, .ref mm), (1, .int (iI a)), (2, .int (iI b)), (3, .int (iI v)), (5, .int (iI i))]) hx hb dX3_pillarAbove_90 hl (by decide) rfl (fun ls hl => ?_)
          refine zv_iinc (k := 6) (lv' := [(5, .int (iI (i + 1))), (4, .int (iI x)), (6, .int (iI 0)), (0, .ref mm), (1, .int (iI a)), (2, .int (iI b)), (3, .int (iI v))]) hx hb dX3_pillarAbove_92 hl rfl (by decide) rfl (fun ls hl => ?_)
          refine lv_goto (tgt := 6) hx hb dX3_pillarAbove_95 (by decide) ?_
          exact ih x (i + 1) (by omega) (by omega) (by first | exact hbl.no (by omega) (by omega) | exact hbl.new (by omega) (by omega) (by omega) (by omega) (by omega) | exact hbl.old (by omega) (by omega) (by omega)) (by omega) ls (lv_sub hl [3, 4, 5, 6, 1, 0] rfl)
        · refine lv_aload_n hx hb dX3_pillarAbove_26 rfl (lv_at hl 0 rfl) ?_
          refine va_get (D := D) (ci := 3) (v := .ref ar) (C := RX3) (T := TX3) (N := 14) hx hb hts uX3 hown hK.1 hP 0 rfl rfl 6 (by decide) (hts _ q_532) (fun _ h9 => h9) rfl dX3_pillarAbove_27 ?_
          refine lv_iload hx hb dX3_pillarAbove_30 (lv_at hl 5 rfl) ?_
          refine zv_iald hx hb hK.1 hP 2 0 rfl rfl (by omega) (by omega) (by omega) dX3_pillarAbove_32 ?_
          refine lv_iload_n hx hb dX3_pillarAbove_33 rfl (lv_at hl 2 rfl) ?_
          refine zv_icmp_le hx hb dX3_pillarAbove_34 (tgt := 52) (by decide) ⟨by omega, by omega⟩ ⟨by omega, by omega⟩ (fun c_4 => ?_) (fun c_4 => ?_)
          · refine zv_iconst hx hb dX3_pillarAbove_52 ?_
            refine lv_istore (lv' := [(6, .int (iI 0)), (0, .ref mm), (1, .int (iI a)), (2, .int (iI b)), (3, .int (iI v)), (4, .int (iI x)), (5, .int (iI i))]) hx hb dX3_pillarAbove_53 hl (by decide) rfl (fun ls hl => ?_)
            refine lv_iload hx hb dX3_pillarAbove_55 (lv_at hl 0 rfl) ?_
            refine zv_if_eq hx hb dX3_pillarAbove_57 (tgt := 88) (by decide) ⟨by omega, by omega⟩ (fun c_5 => ?_) (fun c_5 => by exfalso; omega)
            refine lv_iload hx hb dX3_pillarAbove_88 (lv_at hl 5 rfl) ?_
            refine lv_istore (lv' := [(4, .int (iI x)), (6, .int (iI 0)), (0, .ref mm), (1, .int (iI a)), (2, .int (iI b)), (3, .int (iI v)), (5, .int (iI i))]) hx hb dX3_pillarAbove_90 hl (by decide) rfl (fun ls hl => ?_)
            refine zv_iinc (k := 6) (lv' := [(5, .int (iI (i + 1))), (4, .int (iI x)), (6, .int (iI 0)), (0, .ref mm), (1, .int (iI a)), (2, .int (iI b)), (3, .int (iI v))]) hx hb dX3_pillarAbove_92 hl rfl (by decide) rfl (fun ls hl => ?_)
            refine lv_goto (tgt := 6) hx hb dX3_pillarAbove_95 (by decide) ?_
            exact ih x (i + 1) (by omega) (by omega) (by first | exact hbl.no (by omega) (by omega) | exact hbl.new (by omega) (by omega) (by omega) (by omega) (by omega) | exact hbl.old (by omega) (by omega) (by omega)) (by omega) ls (lv_sub hl [3, 4, 5, 6, 1, 0] rfl)
          · refine lv_aload_n hx hb dX3_pillarAbove_37 rfl (lv_at hl 0 rfl) ?_
            refine va_get (D := D) (ci := 3) (v := .ref ar) (C := RX3) (T := TX3) (N := 14) hx hb hts uX3 hown hK.1 hP 0 rfl rfl 6 (by decide) (hts _ q_532) (fun _ h9 => h9) rfl dX3_pillarAbove_38 ?_
            refine lv_iload hx hb dX3_pillarAbove_41 (lv_at hl 5 rfl) ?_
            refine zv_iald hx hb hK.1 hP 2 0 rfl rfl (by omega) (by omega) (by omega) dX3_pillarAbove_43 ?_
            refine lv_iload_n hx hb dX3_pillarAbove_44 rfl (lv_at hl 3 rfl) ?_
            refine zv_icmp_ge hx hb dX3_pillarAbove_45 (tgt := 52) (by decide) ⟨by omega, by omega⟩ ⟨by omega, by omega⟩ (fun c_6 => ?_) (fun c_6 => ?_)
            · refine zv_iconst hx hb dX3_pillarAbove_52 ?_
              refine lv_istore (lv' := [(6, .int (iI 0)), (0, .ref mm), (1, .int (iI a)), (2, .int (iI b)), (3, .int (iI v)), (4, .int (iI x)), (5, .int (iI i))]) hx hb dX3_pillarAbove_53 hl (by decide) rfl (fun ls hl => ?_)
              refine lv_iload hx hb dX3_pillarAbove_55 (lv_at hl 0 rfl) ?_
              refine zv_if_eq hx hb dX3_pillarAbove_57 (tgt := 88) (by decide) ⟨by omega, by omega⟩ (fun c_7 => ?_) (fun c_7 => by exfalso; omega)
              refine lv_iload hx hb dX3_pillarAbove_88 (lv_at hl 5 rfl) ?_
              refine lv_istore (lv' := [(4, .int (iI x)), (6, .int (iI 0)), (0, .ref mm), (1, .int (iI a)), (2, .int (iI b)), (3, .int (iI v)), (5, .int (iI i))]) hx hb dX3_pillarAbove_90 hl (by decide) rfl (fun ls hl => ?_)
              refine zv_iinc (k := 6) (lv' := [(5, .int (iI (i + 1))), (4, .int (iI x)), (6, .int (iI 0)), (0, .ref mm), (1, .int (iI a)), (2, .int (iI b)), (3, .int (iI v))]) hx hb dX3_pillarAbove_92 hl rfl (by decide) rfl (fun ls hl => ?_)
              refine lv_goto (tgt := 6) hx hb dX3_pillarAbove_95 (by decide) ?_
              exact ih x (i + 1) (by omega) (by omega) (by first | exact hbl.no (by omega) (by omega) | exact hbl.new (by omega) (by omega) (by omega) (by omega) (by omega) | exact hbl.old (by omega) (by omega) (by omega)) (by omega) ls (lv_sub hl [3, 4, 5, 6, 1, 0] rfl)
            · refine zv_iconst hx hb dX3_pillarAbove_48 ?_
              refine lv_goto (tgt := 53) hx hb dX3_pillarAbove_49 (by decide) ?_
              refine lv_istore (lv' := [(6, .int (iI 1)), (0, .ref mm), (1, .int (iI a)), (2, .int (iI b)), (3, .int (iI v)), (4, .int (iI x)), (5, .int (iI i))]) hx hb dX3_pillarAbove_53 hl (by decide) rfl (fun ls hl => ?_)
              refine lv_iload hx hb dX3_pillarAbove_55 (lv_at hl 0 rfl) ?_
              refine zv_if_eq hx hb dX3_pillarAbove_57 (tgt := 88) (by decide) ⟨by omega, by omega⟩ (fun c_8 => by exfalso; omega) (fun c_8 => ?_)
              refine lv_iload hx hb dX3_pillarAbove_60 (lv_at hl 5 rfl) ?_
              refine zv_iconst hx hb dX3_pillarAbove_62 ?_
              refine zv_icmp_eq hx hb dX3_pillarAbove_63 (tgt := 83) (by decide) ⟨by omega, by omega⟩ ⟨by omega, by omega⟩ (fun c_9 => ?_) (fun c_9 => ?_)
              · refine lv_iload hx hb dX3_pillarAbove_83 (lv_at hl 6 rfl) ?_
                refine lv_goto (tgt := 90) hx hb dX3_pillarAbove_85 (by decide) ?_
                refine lv_istore (lv' := [(4, .int (iI i)), (6, .int (iI 1)), (0, .ref mm), (1, .int (iI a)), (2, .int (iI b)), (3, .int (iI v)), (5, .int (iI i))]) hx hb dX3_pillarAbove_90 hl (by decide) rfl (fun ls hl => ?_)
                refine zv_iinc (k := 6) (lv' := [(5, .int (iI (i + 1))), (4, .int (iI i)), (6, .int (iI 1)), (0, .ref mm), (1, .int (iI a)), (2, .int (iI b)), (3, .int (iI v))]) hx hb dX3_pillarAbove_92 hl rfl (by decide) rfl (fun ls hl => ?_)
                refine lv_goto (tgt := 6) hx hb dX3_pillarAbove_95 (by decide) ?_
                exact ih i (i + 1) (by omega) (by omega) (by first | exact hbl.no (by omega) (by omega) | exact hbl.new (by omega) (by omega) (by omega) (by omega) (by omega) | exact hbl.old (by omega) (by omega) (by omega)) (by omega) ls (lv_sub hl [3, 4, 5, 6, 1, 0] rfl)
              · refine lv_aload_n hx hb dX3_pillarAbove_66 rfl (lv_at hl 1 rfl) ?_
                refine va_get (D := D) (ci := 3) (v := .ref ar) (C := RX3) (T := TX3) (N := 14) hx hb hts uX3 hown hK.1 hP 0 rfl rfl 6 (by decide) (hts _ q_532) (fun _ h9 => h9) rfl dX3_pillarAbove_67 ?_
                refine lv_iload hx hb dX3_pillarAbove_70 (lv_at hl 6 rfl) ?_
                refine zv_iald hx hb hK.1 hP 2 0 rfl rfl (by omega) (by omega) (by omega) dX3_pillarAbove_72 ?_
                refine lv_aload_n hx hb dX3_pillarAbove_73 rfl (lv_at hl 1 rfl) ?_
                refine va_get (D := D) (ci := 3) (v := .ref ar) (C := RX3) (T := TX3) (N := 14) hx hb hts uX3 hown hK.1 hP 0 rfl rfl 6 (by decide) (hts _ q_532) (fun _ h9 => h9) rfl dX3_pillarAbove_74 ?_
                have hax := hM.at (i := x) (by omega) (by omega)
                refine lv_iload hx hb dX3_pillarAbove_77 (lv_at hl 5 rfl) ?_
                refine zv_iald hx hb hK.1 hP 2 0 rfl rfl (by omega) (by omega) (by omega) dX3_pillarAbove_79 ?_
                refine zv_icmp_le hx hb dX3_pillarAbove_80 (tgt := 88) (by decide) ⟨by omega, by omega⟩ ⟨by omega, by omega⟩ (fun c_10 => ?_) (fun c_10 => ?_)
                · refine lv_iload hx hb dX3_pillarAbove_88 (lv_at hl 5 rfl) ?_
                  refine lv_istore (lv' := [(4, .int (iI x)), (6, .int (iI 1)), (0, .ref mm), (1, .int (iI a)), (2, .int (iI b)), (3, .int (iI v)), (5, .int (iI i))]) hx hb dX3_pillarAbove_90 hl (by decide) rfl (fun ls hl => ?_)
                  refine zv_iinc (k := 6) (lv' := [(5, .int (iI (i + 1))), (4, .int (iI x)), (6, .int (iI 1)), (0, .ref mm), (1, .int (iI a)), (2, .int (iI b)), (3, .int (iI v))]) hx hb dX3_pillarAbove_92 hl rfl (by decide) rfl (fun ls hl => ?_)
                  refine lv_goto (tgt := 6) hx hb dX3_pillarAbove_95 (by decide) ?_
                  exact ih x (i + 1) (by omega) (by omega) (by first | exact hbl.no (by omega) (by omega) | exact hbl.new (by omega) (by omega) (by omega) (by omega) (by omega) | exact hbl.old (by omega) (by omega) (by omega)) (by omega) ls (lv_sub hl [3, 4, 5, 6, 1, 0] rfl)
                · refine lv_iload hx hb dX3_pillarAbove_83 (lv_at hl 6 rfl) ?_
                  refine lv_goto (tgt := 90) hx hb dX3_pillarAbove_85 (by decide) ?_
                  refine lv_istore (lv' := [(4, .int (iI i)), (6, .int (iI 1)), (0, .ref mm), (1, .int (iI a)), (2, .int (iI b)), (3, .int (iI v)), (5, .int (iI i))]) hx hb dX3_pillarAbove_90 hl (by decide) rfl (fun ls hl => ?_)
                  refine zv_iinc (k := 6) (lv' := [(5, .int (iI (i + 1))), (4, .int (iI i)), (6, .int (iI 1)), (0, .ref mm), (1, .int (iI a)), (2, .int (iI b)), (3, .int (iI v))]) hx hb dX3_pillarAbove_92 hl rfl (by decide) rfl (fun ls hl => ?_)
                  refine lv_goto (tgt := 6) hx hb dX3_pillarAbove_95 (by decide) ?_
                  exact ih i (i + 1) (by omega) (by omega) (by first | exact hbl.no (by omega) (by omega) | exact hbl.new (by omega) (by omega) (by omega) (by omega) (by omega) | exact hbl.old (by omega) (by omega) (by omega)) (by omega) ls (lv_sub hl [3, 4, 5, 6, 1, 0] rfl)
  exact loop6 4 (-1) 0 (by omega) (by omega) AbvI.z (by omega) ls (lv_sub hl [2, 3, 4, 5, 1, 0] rfl)
set_option maxRecDepth 100000 in
set_option maxHeartbeats 4000000 in
theorem c_X3_goesRight (l : Launch) (D : va_G) (cI cJ : ClassId) (mm ac ar al aq ab : Nat) (th C R lim np qb qs wd sm : Int) (gc gr : Nat → Int) (N : Int → Int) (w a b : Int) (hM : MdOK C R np N gc gr) (ha0 : 0 ≤ a) (ha1 : a < C) (hb0 : 0 ≤ b) (hb1 : b < R) (hw0 : 0 ≤ w) (hw1 : w < 343) : PM l yX3_goesRight (.code yX3_goesRight cX3_goesRight 6 (some .int)) 2 [.ref mm, .int (iI w), .int (iI a), .int (iI b)] D cI cJ [(mm, .inr (3, [.int (iI th), .int (iI C), .int (iI R), .int (iI lim), .int (iI np), .ref ac, .ref ar, .int (iI qb), .int (iI qs), .int (iI wd), .int (iI sm), .ref al, .ref aq, .ref ab])), (ac, .inl (cI, 3, .inl (aI gc))), (ar, .inl (cI, 3, .inl (aI gr)))] (fun r => r = wRZ N R a b w) := by
  obtain ⟨hC1, hC2, hR1, hR2, hp1, hp2, -, -⟩ := id hM
  refine PM_of (by decide) rfl (Nat.le_of_ble_eq_true rfl) (fun p e s m below meth c ls hx hb hr hts hown hlk hml hK hP hl => ?_)
  have hl : lv_has ls 6 [(0, .ref mm), (1, .int (iI w)), (2, .int (iI a)), (3, .int (iI b))] := hl
  refine lv_iload_n hx hb dX3_goesRight_0 rfl (lv_at hl 1 rfl) ?_
  refine lv_istore (lv' := [(4, .int (iI w)), (0, .ref mm), (1, .int (iI w)), (2, .int (iI a)), (3, .int (iI b))]) hx hb dX3_goesRight_1 hl (by decide) rfl (fun ls hl => ?_)
  refine lv_aload_n hx hb dX3_goesRight_3 rfl (lv_at hl 1 rfl) ?_
  refine lv_iload_n hx hb dX3_goesRight_4 rfl (lv_at hl 3 rfl) ?_
  refine lv_iload_n hx hb dX3_goesRight_5 rfl (lv_at hl 4 rfl) ?_
  refine zc_V (As := [.int (iI a), .int (iI b)]) (rest := []) (ws := [(mm, .inr (3, [.int (iI th), .int (iI C), .int (iI R), .int (iI lim), .int (iI np), .ref ac, .ref ar, .int (iI qb), .int (iI qs), .int (iI wd), .int (iI sm), .ref al, .ref aq, .ref ab])), (ac, .inl (cI, 3, .inl (aI gc))), (ar, .inl (cI, 3, .inl (aI gr)))]) (n := 2) hx hb (hml.trans hl.1.symm) hts hown hK hP (c_X3_pillarBelow l D cI cJ mm ac ar al aq ab th C R lim np qb qs wd sm gc gr N a b hM (by omega) (by omega) (by omega) (by omega)) (gd_V q_511 q_513 q_1019 q_6 q_514) (by decide +kernel) rfl ⟨Nat.le_of_ble_eq_true rfl, Nat.le_of_ble_eq_true rfl⟩ ⟨Nat.zero_le _, Nat.zero_le _⟩ [0, 1, 2] rfl 0 (ci := 3) rfl rfl rfl rfl (Nat.le_of_ble_eq_true rfl) dX3_goesRight_6 (fun r_1 hr_1 => ?_)
  refine lv_istore (lv' := [(5, .int (iI r_1)), (4, .int (iI w)), (0, .ref mm), (1, .int (iI w)), (2, .int (iI a)), (3, .int (iI b))]) hx hb dX3_goesRight_9 hl (by decide) rfl (fun ls hl => ?_)
  have loop11 : ∀ (n : Nat) (x k : Int) (u : Int), (b ≤ u) → (u < R) → (x = wRn N a (u - b).toNat (b + 1) w) → (BelP N gr R np a u k) → (R - u < (n : Int)) → ∀ ls : Array Slot, lv_has ls 6 [(0, .ref mm), (1, .int (iI w)), (2, .int (iI a)), (3, .int (iI b)), (4, .int (iI x)), (5, .int (iI k))] → W p l e (lvl 2) s m [.ref mm, .int (iI w), .int (iI a), .int (iI b)].toArray below meth c s.heap [] 0 0 (MQ below (PQ (fun r => r = wRZ N R a b w)) [.ref mm, .int (iI w), .int (iI a), .int (iI b)].toArray s 0 0 (fun _ => False)) (F0 m 11 ls []) := by
    intro n
    induction n with
    | zero => intro x k u hu0 hu1 hxw hk hms; exfalso; omega
    | succ n ih =>
      intro x k u hu0 hu1 hxw hk hms ls hl
      have hxb := wRn_b hM.Fl (c := a) hw0 hw1 (u - b).toNat (b + 1)
      have hpb := pw7_le (u - b).toNat (by omega)
      rw [← hxw] at hxb
      have hkb : -1 ≤ k ∧ k ≤ 2 := by rcases hk with ⟨h, -⟩ | ⟨h, h2, -⟩ <;> omega
      refine lv_iload hx hb dX3_goesRight_11 (lv_at hl 5 rfl) ?_
      refine zv_iconst hx hb dX3_goesRight_13 ?_
      refine zv_icmp_eq hx hb dX3_goesRight_14 (tgt := 45) (by decide) ⟨by omega, by omega⟩ ⟨by omega, by omega⟩ (fun c_2 => ?_) (fun c_2 => ?_)
      · refine lv_iload hx hb dX3_goesRight_45 (lv_at hl 4 rfl) ?_
        exact PM_iret hx hb hr hlk dX3_goesRight_47 (by rcases hk with ⟨-, h⟩ | ⟨h, -⟩ <;> first | (rw [hxw, wRn_end hu0 hu1 h]; done) | (exfalso; omega))
      · rcases hk with ⟨hk1, -⟩ | ⟨hk0, hk1, y, hy0, hy1, hyN, hyr, hyn⟩
        · exact absurd hk1 (by assumption)
        refine lv_iload hx hb dX3_goesRight_17 (lv_at hl 4 rfl) ?_
        refine zv_iconst hx hb dX3_goesRight_19 ?_
        refine lv_iload hx hb dX3_goesRight_20 (lv_at hl 5 rfl) ?_
        refine zv_imul hx hb dX3_goesRight_22 ?_
        refine zc_S (As := [.int (iI x), .int (iI (2 * k))]) (rest := []) (ws := [(mm, .inr (3, [.int (iI th), .int (iI C), .int (iI R), .int (iI lim), .int (iI np), .ref ac, .ref ar, .int (iI qb), .int (iI qs), .int (iI wd), .int (iI sm), .ref al, .ref aq, .ref ab])), (ac, .inl (cI, 3, .inl (aI gc))), (ar, .inl (cI, 3, .inl (aI gr)))]) (n := 2) hx hb (hml.trans hl.1.symm) hts hown hK hP (c_X3_joined l D cI cJ x (2 * k) (by omega) (by omega) (by omega) (by omega)) (gd_S q_515 q_516 q_6 q_517) (by decide +kernel) rfl ⟨Nat.le_of_ble_eq_true rfl, Nat.le_of_ble_eq_true rfl⟩ ⟨Nat.zero_le _, Nat.zero_le _⟩ [] rfl rfl (Nat.le_of_ble_eq_true rfl) dX3_goesRight_23 (fun r_3 hr_3 => ?_)
        subst hr_3
        refine lv_istore (lv' := [(4, .int (iI (wjZ x (2 * k)))), (0, .ref mm), (1, .int (iI w)), (2, .int (iI a)), (3, .int (iI b)), (5, .int (iI k))]) hx hb dX3_goesRight_26 hl (by decide) rfl (fun ls hl => ?_)
        refine lv_aload_n hx hb dX3_goesRight_28 rfl (lv_at hl 1 rfl) ?_
        refine lv_iload_n hx hb dX3_goesRight_29 rfl (lv_at hl 3 rfl) ?_
        refine lv_aload_n hx hb dX3_goesRight_30 rfl (lv_at hl 1 rfl) ?_
        refine va_get (D := D) (ci := 3) (v := .ref ar) (C := RX3) (T := TX3) (N := 14) hx hb hts uX3 hown hK.1 hP 0 rfl rfl 6 (by decide) (hts _ q_532) (fun _ h9 => h9) rfl dX3_goesRight_31 ?_
        refine lv_iload hx hb dX3_goesRight_34 (lv_at hl 5 rfl) ?_
        refine zv_iald hx hb hK.1 hP 2 0 rfl rfl (by omega) (by omega) (by omega) dX3_goesRight_36 ?_
        refine zv_top (y := y) (hyr) ?_
        refine zc_V (As := [.int (iI a), .int (iI y)]) (rest := []) (ws := [(mm, .inr (3, [.int (iI th), .int (iI C), .int (iI R), .int (iI lim), .int (iI np), .ref ac, .ref ar, .int (iI qb), .int (iI qs), .int (iI wd), .int (iI sm), .ref al, .ref aq, .ref ab])), (ac, .inl (cI, 3, .inl (aI gc))), (ar, .inl (cI, 3, .inl (aI gr)))]) (n := 2) hx hb (hml.trans hl.1.symm) hts hown hK hP (c_X3_pillarBelow l D cI cJ mm ac ar al aq ab th C R lim np qb qs wd sm gc gr N a y hM (by omega) (by omega) (by omega) (by omega)) (gd_V q_511 q_513 q_1019 q_6 q_514) (by decide +kernel) rfl ⟨Nat.le_of_ble_eq_true rfl, Nat.le_of_ble_eq_true rfl⟩ ⟨Nat.zero_le _, Nat.zero_le _⟩ [0, 1, 2] rfl 0 (ci := 3) rfl rfl rfl rfl (Nat.le_of_ble_eq_true rfl) dX3_goesRight_37 (fun r_4 hr_4 => ?_)
        refine lv_istore (lv' := [(5, .int (iI r_4)), (4, .int (iI (wjZ x (2 * k)))), (0, .ref mm), (1, .int (iI w)), (2, .int (iI a)), (3, .int (iI b))]) hx hb dX3_goesRight_40 hl (by decide) rfl (fun ls hl => ?_)
        refine lv_goto (tgt := 11) hx hb dX3_goesRight_42 (by decide) ?_
        exact ih (wjZ x (2 * k)) r_4 y (by omega) (by omega) (by rw [wRn_to hu0 hy0 hyn (by omega), hyN, ← hxw]) (by assumption) (by omega) ls (lv_sub hl [2, 3, 4, 5, 1, 0] rfl)
  exact loop11 8 w r_1 b (by omega) (by omega) (by rw [show (b - b).toNat = 0 by omega]; rfl) (by assumption) (by omega) ls (lv_sub hl [2, 3, 4, 5, 1, 0] rfl)
set_option maxRecDepth 100000 in
set_option maxHeartbeats 4000000 in
theorem c_X3_goesLeft (l : Launch) (D : va_G) (cI cJ : ClassId) (mm ac ar al aq ab : Nat) (th C R lim np qb qs wd sm : Int) (gc gr : Nat → Int) (N : Int → Int) (w a b : Int) (hM : MdOK C R np N gc gr) (ha0 : 0 ≤ a) (ha1 : a < C) (hb0 : 0 ≤ b) (hb1 : b < R) (hw0 : 0 ≤ w) (hw1 : w < 343) : PM l yX3_goesLeft (.code yX3_goesLeft cX3_goesLeft 6 (some .int)) 2 [.ref mm, .int (iI w), .int (iI a), .int (iI b)] D cI cJ [(mm, .inr (3, [.int (iI th), .int (iI C), .int (iI R), .int (iI lim), .int (iI np), .ref ac, .ref ar, .int (iI qb), .int (iI qs), .int (iI wd), .int (iI sm), .ref al, .ref aq, .ref ab])), (ac, .inl (cI, 3, .inl (aI gc))), (ar, .inl (cI, 3, .inl (aI gr)))] (fun r => r = wLZ N R a b w) := by
  obtain ⟨hC1, hC2, hR1, hR2, hp1, hp2, -, -⟩ := id hM
  refine PM_of (by decide) rfl (Nat.le_of_ble_eq_true rfl) (fun p e s m below meth c ls hx hb hr hts hown hlk hml hK hP hl => ?_)
  have hl : lv_has ls 6 [(0, .ref mm), (1, .int (iI w)), (2, .int (iI a)), (3, .int (iI b))] := hl
  refine lv_iload_n hx hb dX3_goesLeft_0 rfl (lv_at hl 1 rfl) ?_
  refine lv_istore (lv' := [(4, .int (iI w)), (0, .ref mm), (1, .int (iI w)), (2, .int (iI a)), (3, .int (iI b))]) hx hb dX3_goesLeft_1 hl (by decide) rfl (fun ls hl => ?_)
  refine lv_aload_n hx hb dX3_goesLeft_3 rfl (lv_at hl 1 rfl) ?_
  refine lv_iload_n hx hb dX3_goesLeft_4 rfl (lv_at hl 3 rfl) ?_
  refine lv_iload_n hx hb dX3_goesLeft_5 rfl (lv_at hl 4 rfl) ?_
  refine zv_bipush hx hb dX3_goesLeft_6 (by decide) ?_
  refine zc_V (As := [.int (iI a), .int (iI b), .int (iI 7)]) (rest := []) (ws := [(mm, .inr (3, [.int (iI th), .int (iI C), .int (iI R), .int (iI lim), .int (iI np), .ref ac, .ref ar, .int (iI qb), .int (iI qs), .int (iI wd), .int (iI sm), .ref al, .ref aq, .ref ab])), (ac, .inl (cI, 3, .inl (aI gc))), (ar, .inl (cI, 3, .inl (aI gr)))]) (n := 3) hx hb (hml.trans hl.1.symm) hts hown hK hP (c_X3_pillarAbove l D cI cJ mm ac ar al aq ab th C R lim np qb qs wd sm gc gr N a b 7 hM (by omega) (by omega) (by omega) (by omega) (by omega) (by omega)) (gd_V q_522 q_524 q_1021 q_6 q_525) (by decide +kernel) rfl ⟨Nat.le_of_ble_eq_true rfl, Nat.le_of_ble_eq_true rfl⟩ ⟨Nat.zero_le _, Nat.zero_le _⟩ [0, 1, 2] rfl 0 (ci := 3) rfl rfl rfl rfl (Nat.le_of_ble_eq_true rfl) dX3_goesLeft_8 (fun r_1 hr_1 => ?_)
  refine lv_istore (lv' := [(5, .int (iI r_1)), (4, .int (iI w)), (0, .ref mm), (1, .int (iI w)), (2, .int (iI a)), (3, .int (iI b))]) hx hb dX3_goesLeft_11 hl (by decide) rfl (fun ls hl => ?_)
  have loop13 : ∀ (n : Nat) (x k : Int) (v : Int), (b < v) → (v ≤ 7) → (wLn N a (v - 1 - b).toNat (b + 1) x = wLZ N R a b w) → (0 ≤ x) → (x < pw7 (7 - v).toNat) → (AbvP N gr np a b v k) → (v - b < (n : Int)) → ∀ ls : Array Slot, lv_has ls 6 [(0, .ref mm), (1, .int (iI w)), (2, .int (iI a)), (3, .int (iI b)), (4, .int (iI x)), (5, .int (iI k))] → W p l e (lvl 2) s m [.ref mm, .int (iI w), .int (iI a), .int (iI b)].toArray below meth c s.heap [] 0 0 (MQ below (PQ (fun r => r = wLZ N R a b w)) [.ref mm, .int (iI w), .int (iI a), .int (iI b)].toArray s 0 0 (fun _ => False)) (F0 m 13 ls []) := by
    intro n
    induction n with
    | zero => intro x k v hv0 hv1 hxw hx0 hx1 hk hms; exfalso; omega
    | succ n ih =>
      intro x k v hv0 hv1 hxw hx0 hx1 hk hms ls hl
      have hpb := pw7_le (7 - v).toNat (by omega)
      have hkb : -1 ≤ k ∧ k ≤ 2 := by rcases hk with ⟨h, -⟩ | ⟨h, h2, -⟩ <;> omega
      refine lv_iload hx hb dX3_goesLeft_13 (lv_at hl 5 rfl) ?_
      refine zv_iconst hx hb dX3_goesLeft_15 ?_
      refine zv_icmp_eq hx hb dX3_goesLeft_16 (tgt := 50) (by decide) ⟨by omega, by omega⟩ ⟨by omega, by omega⟩ (fun c_2 => ?_) (fun c_2 => ?_)
      · refine lv_iload hx hb dX3_goesLeft_50 (lv_at hl 4 rfl) ?_
        exact PM_iret hx hb hr hlk dX3_goesLeft_52 (by rcases hk with ⟨-, h⟩ | ⟨h, -⟩ <;> first | (rw [← hxw, wLn_end h]; done) | (exfalso; omega))
      · rcases hk with ⟨hk1, -⟩ | ⟨hk0, hk1, y, hy0, hy1, hyN, hyr, hyn⟩
        · exact absurd hk1 (by assumption)
        refine lv_iload hx hb dX3_goesLeft_19 (lv_at hl 4 rfl) ?_
        refine zv_iconst hx hb dX3_goesLeft_21 ?_
        refine lv_iload hx hb dX3_goesLeft_22 (lv_at hl 5 rfl) ?_
        refine zv_imul hx hb dX3_goesLeft_24 ?_
        refine zv_iconst hx hb dX3_goesLeft_25 ?_
        refine zv_iadd hx hb dX3_goesLeft_26 ?_
        refine zc_S (As := [.int (iI x), .int (iI ((2 * k) + 1))]) (rest := []) (ws := [(mm, .inr (3, [.int (iI th), .int (iI C), .int (iI R), .int (iI lim), .int (iI np), .ref ac, .ref ar, .int (iI qb), .int (iI qs), .int (iI wd), .int (iI sm), .ref al, .ref aq, .ref ab])), (ac, .inl (cI, 3, .inl (aI gc))), (ar, .inl (cI, 3, .inl (aI gr)))]) (n := 2) hx hb (hml.trans hl.1.symm) hts hown hK hP (c_X3_joined l D cI cJ x ((2 * k) + 1) (by omega) (by omega) (by omega) (by omega)) (gd_S q_515 q_516 q_6 q_517) (by decide +kernel) rfl ⟨Nat.le_of_ble_eq_true rfl, Nat.le_of_ble_eq_true rfl⟩ ⟨Nat.zero_le _, Nat.zero_le _⟩ [] rfl rfl (Nat.le_of_ble_eq_true rfl) dX3_goesLeft_27 (fun r_3 hr_3 => ?_)
        subst hr_3
        refine lv_istore (lv' := [(4, .int (iI (wjZ x ((2 * k) + 1)))), (0, .ref mm), (1, .int (iI w)), (2, .int (iI a)), (3, .int (iI b)), (5, .int (iI k))]) hx hb dX3_goesLeft_30 hl (by decide) rfl (fun ls hl => ?_)
        refine lv_aload_n hx hb dX3_goesLeft_32 rfl (lv_at hl 1 rfl) ?_
        refine lv_iload_n hx hb dX3_goesLeft_33 rfl (lv_at hl 3 rfl) ?_
        refine lv_iload_n hx hb dX3_goesLeft_34 rfl (lv_at hl 4 rfl) ?_
        refine lv_aload_n hx hb dX3_goesLeft_35 rfl (lv_at hl 1 rfl) ?_
        refine va_get (D := D) (ci := 3) (v := .ref ar) (C := RX3) (T := TX3) (N := 14) hx hb hts uX3 hown hK.1 hP 0 rfl rfl 6 (by decide) (hts _ q_532) (fun _ h9 => h9) rfl dX3_goesLeft_36 ?_
        refine lv_iload hx hb dX3_goesLeft_39 (lv_at hl 5 rfl) ?_
        refine zv_iald hx hb hK.1 hP 2 0 rfl rfl (by omega) (by omega) (by omega) dX3_goesLeft_41 ?_
        refine zv_top (y := y) (hyr) ?_
        refine zc_V (As := [.int (iI a), .int (iI b), .int (iI y)]) (rest := []) (ws := [(mm, .inr (3, [.int (iI th), .int (iI C), .int (iI R), .int (iI lim), .int (iI np), .ref ac, .ref ar, .int (iI qb), .int (iI qs), .int (iI wd), .int (iI sm), .ref al, .ref aq, .ref ab])), (ac, .inl (cI, 3, .inl (aI gc))), (ar, .inl (cI, 3, .inl (aI gr)))]) (n := 3) hx hb (hml.trans hl.1.symm) hts hown hK hP (c_X3_pillarAbove l D cI cJ mm ac ar al aq ab th C R lim np qb qs wd sm gc gr N a b y hM (by omega) (by omega) (by omega) (by omega) (by omega) (by omega)) (gd_V q_522 q_524 q_1021 q_6 q_525) (by decide +kernel) rfl ⟨Nat.le_of_ble_eq_true rfl, Nat.le_of_ble_eq_true rfl⟩ ⟨Nat.zero_le _, Nat.zero_le _⟩ [0, 1, 2] rfl 0 (ci := 3) rfl rfl rfl rfl (Nat.le_of_ble_eq_true rfl) dX3_goesLeft_42 (fun r_4 hr_4 => ?_)
        refine lv_istore (lv' := [(5, .int (iI r_4)), (4, .int (iI (wjZ x ((2 * k) + 1)))), (0, .ref mm), (1, .int (iI w)), (2, .int (iI a)), (3, .int (iI b))]) hx hb dX3_goesLeft_45 hl (by decide) rfl (fun ls hl => ?_)
        refine lv_goto (tgt := 13) hx hb dX3_goesLeft_47 (by decide) ?_
        have hop : oppZ (2 * k) = 2 * k + 1 := by unfold oppZ; rw [if_pos (by omega)]
        have hwb := wjZ_b (w := x) (k := 2 * k + 1) hx0 hx1 (by omega) (by omega)
        have hpm := (pw7_mono (i := (7 - v).toNat + 1) (j := (7 - y).toNat) (by omega)).1
        have hpe : pw7 ((7 - v).toNat + 1) = 7 * pw7 (7 - v).toNat := rfl
        exact ih (wjZ x ((2 * k) + 1)) r_4 y (by omega) (by omega) (by rw [← hxw, wLn_to hy0 hy1 hyn (by omega), hyN, hop]) hwb.1 (by omega) (by assumption) (by omega) ls (lv_sub hl [2, 3, 4, 5, 1, 0] rfl)
  exact loop13 8 w r_1 7 (by omega) (by omega) (wLZ_7 hM (by omega) (by omega) (by omega)) (by omega) (by show _ < (343 : Int); omega) (by assumption) (by omega) ls (lv_sub hl [2, 3, 4, 5, 1, 0] rfl)
