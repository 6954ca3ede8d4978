set_option maxRecDepth 100000 in
set_option maxHeartbeats 4000000 in
theorem c_X2_squareAt (l : Launch) (D : va_G) (cI cJ : ClassId) (a b : Int) : PM l yX2_squareAt (.code yX2_squareAt cX2_squareAt 2 (some .int)) 0 [.int (iI a), .int (iI b)] D cI cJ [] (fun r => r = a * 7 + b) := by
  refine PM_of (by decide) rfl (Nat.le_of_ble_eq_true rfl) (fun p e s m below meth c ls hx hb hr hts hown hlk hml hK hP hl => ?_)
  have hl : lv_has ls 2 [(0, .int (iI a)), (1, .int (iI b))] := hl
  refine lv_iload_n hx hb dX2_squareAt_0 rfl (lv_at hl 0 rfl) ?_
  refine zv_bipush hx hb dX2_squareAt_1 (by decide) ?_
  refine zv_imul hx hb dX2_squareAt_3 ?_
  refine lv_iload_n hx hb dX2_squareAt_4 rfl (lv_at hl 1 rfl) ?_
  refine zv_iadd hx hb dX2_squareAt_5 ?_
  exact PM_iret hx hb hr hlk dX2_squareAt_6 (by first | rfl | omega)
set_option maxRecDepth 100000 in
set_option maxHeartbeats 4000000 in
theorem c_X2_columnOf (l : Launch) (D : va_G) (cI cJ : ClassId) (q : Int) (hq0 : 0 ≤ q) (hq1 : q < 2147483648) : PM l yX2_columnOf (.code yX2_columnOf cX2_columnOf 1 (some .int)) 0 [.int (iI q)] D cI cJ [] (fun r => r = q / 7) := by
  refine PM_of (by decide) rfl (Nat.le_of_ble_eq_true rfl) (fun p e s m below meth c ls hx hb hr hts hown hlk hml hK hP hl => ?_)
  have hl : lv_has ls 1 [(0, .int (iI q))] := hl
  refine lv_iload_n hx hb dX2_columnOf_0 rfl (lv_at hl 0 rfl) ?_
  refine zv_bipush hx hb dX2_columnOf_1 (by decide) ?_
  refine zv_idiv hx hb dX2_columnOf_3 (by omega) (by omega) (by omega) (by omega) ?_
  exact PM_iret hx hb hr hlk dX2_columnOf_4 (by first | rfl | omega)
set_option maxRecDepth 100000 in
set_option maxHeartbeats 4000000 in
theorem c_X2_rowOf (l : Launch) (D : va_G) (cI cJ : ClassId) (q : Int) (hq0 : 0 ≤ q) (hq1 : q < 2147483648) : PM l yX2_rowOf (.code yX2_rowOf cX2_rowOf 1 (some .int)) 0 [.int (iI q)] D cI cJ [] (fun r => r = q % 7) := by
  refine PM_of (by decide) rfl (Nat.le_of_ble_eq_true rfl) (fun p e s m below meth c ls hx hb hr hts hown hlk hml hK hP hl => ?_)
  have hl : lv_has ls 1 [(0, .int (iI q))] := hl
  refine lv_iload_n hx hb dX2_rowOf_0 rfl (lv_at hl 0 rfl) ?_
  refine zv_bipush hx hb dX2_rowOf_1 (by decide) ?_
  refine zv_irem hx hb dX2_rowOf_3 (by omega) (by omega) (by omega) (by omega) ?_
  exact PM_iret hx hb hr hlk dX2_rowOf_4 (by first | rfl | omega)
set_option maxRecDepth 100000 in
set_option maxHeartbeats 4000000 in
theorem c_X2_placeOf (l : Launch) (D : va_G) (cI cJ : ClassId) (q w : Int) : PM l yX2_placeOf (.code yX2_placeOf cX2_placeOf 2 (some .int)) 0 [.int (iI q), .int (iI w)] D cI cJ [] (fun r => r = q * 343 + w) := by
  refine PM_of (by decide) rfl (Nat.le_of_ble_eq_true rfl) (fun p e s m below meth c ls hx hb hr hts hown hlk hml hK hP hl => ?_)
  have hl : lv_has ls 2 [(0, .int (iI q)), (1, .int (iI w))] := hl
  refine lv_iload_n hx hb dX2_placeOf_0 rfl (lv_at hl 0 rfl) ?_
  refine zv_sipush hx hb dX2_placeOf_1 (by decide) ?_
  refine zv_imul hx hb dX2_placeOf_4 ?_
  refine lv_iload_n hx hb dX2_placeOf_5 rfl (lv_at hl 1 rfl) ?_
  refine zv_iadd hx hb dX2_placeOf_6 ?_
  exact PM_iret hx hb hr hlk dX2_placeOf_7 (by first | rfl | omega)
set_option maxRecDepth 100000 in
set_option maxHeartbeats 4000000 in
theorem c_X2_squareOf (l : Launch) (D : va_G) (cI cJ : ClassId) (q : Int) (hq0 : 0 ≤ q) (hq1 : q < 2147483648) : PM l yX2_squareOf (.code yX2_squareOf cX2_squareOf 1 (some .int)) 0 [.int (iI q)] D cI cJ [] (fun r => r = q / 343) := by
  refine PM_of (by decide) rfl (Nat.le_of_ble_eq_true rfl) (fun p e s m below meth c ls hx hb hr hts hown hlk hml hK hP hl => ?_)
  have hl : lv_has ls 1 [(0, .int (iI q))] := hl
  refine lv_iload_n hx hb dX2_squareOf_0 rfl (lv_at hl 0 rfl) ?_
  refine zv_sipush hx hb dX2_squareOf_1 (by decide) ?_
  refine zv_idiv hx hb dX2_squareOf_4 (by omega) (by omega) (by omega) (by omega) ?_
  exact PM_iret hx hb hr hlk dX2_squareOf_5 (by first | rfl | omega)
set_option maxRecDepth 100000 in
set_option maxHeartbeats 4000000 in
theorem c_X2_wordOf (l : Launch) (D : va_G) (cI cJ : ClassId) (q : Int) (hq0 : 0 ≤ q) (hq1 : q < 2147483648) : PM l yX2_wordOf (.code yX2_wordOf cX2_wordOf 1 (some .int)) 0 [.int (iI q)] D cI cJ [] (fun r => r = q % 343) := by
  refine PM_of (by decide) rfl (Nat.le_of_ble_eq_true rfl) (fun p e s m below meth c ls hx hb hr hts hown hlk hml hK hP hl => ?_)
  have hl : lv_has ls 1 [(0, .int (iI q))] := hl
  refine lv_iload_n hx hb dX2_wordOf_0 rfl (lv_at hl 0 rfl) ?_
  refine zv_sipush hx hb dX2_wordOf_1 (by decide) ?_
  refine zv_irem hx hb dX2_wordOf_4 (by omega) (by omega) (by omega) (by omega) ?_
  exact PM_iret hx hb hr hlk dX2_wordOf_5 (by first | rfl | omega)
set_option maxRecDepth 100000 in
set_option maxHeartbeats 4000000 in
theorem c_X2_lastLetterOf (l : Launch) (D : va_G) (cI cJ : ClassId) (w : Int) (hw0 : 0 ≤ w) (hw1 : w < 2147483648) : PM l yX2_lastLetterOf (.code yX2_lastLetterOf cX2_lastLetterOf 1 (some .int)) 0 [.int (iI w)] D cI cJ [] (fun r => r = w % 7 - 1) := by
  refine PM_of (by decide) rfl (Nat.le_of_ble_eq_true rfl) (fun p e s m below meth c ls hx hb hr hts hown hlk hml hK hP hl => ?_)
  have hl : lv_has ls 1 [(0, .int (iI w))] := hl
  refine lv_iload_n hx hb dX2_lastLetterOf_0 rfl (lv_at hl 0 rfl) ?_
  refine zv_bipush hx hb dX2_lastLetterOf_1 (by decide) ?_
  refine zv_irem hx hb dX2_lastLetterOf_3 (by omega) (by omega) (by omega) (by omega) ?_
  refine zv_iconst hx hb dX2_lastLetterOf_4 ?_
  refine zv_isub hx hb dX2_lastLetterOf_5 ?_
  exact PM_iret hx hb hr hlk dX2_lastLetterOf_6 (by first | rfl | omega)
set_option maxRecDepth 100000 in
set_option maxHeartbeats 4000000 in
theorem c_X2_oppositeOf (l : Launch) (D : va_G) (cI cJ : ClassId) (k : Int) (hk0 : 0 ≤ k) (hk1 : k < 6) : PM l yX2_oppositeOf (.code yX2_oppositeOf cX2_oppositeOf 1 (some .int)) 0 [.int (iI k)] D cI cJ [] (fun r => r = oppZ k) := by
  refine PM_of (by decide) rfl (Nat.le_of_ble_eq_true rfl) (fun p e s m below meth c ls hx hb hr hts hown hlk hml hK hP hl => ?_)
  have hl : lv_has ls 1 [(0, .int (iI k))] := hl
  refine lv_iload_n hx hb dX2_oppositeOf_0 rfl (lv_at hl 0 rfl) ?_
  refine zv_iconst hx hb dX2_oppositeOf_1 ?_
  refine zv_ixor1 hx hb dX2_oppositeOf_2 (by omega) (by omega) ?_
  exact PM_iret hx hb hr hlk dX2_oppositeOf_3 (by first | rfl | omega)
set_option maxRecDepth 100000 in
set_option maxHeartbeats 4000000 in
theorem c_X2_withLetter (l : Launch) (D : va_G) (cI cJ : ClassId) (w k : Int) (hw0 : 0 ≤ w) (hw1 : w < 2147483648) (hk0 : 0 ≤ k) (hk1 : k < 6) : PM l yX2_withLetter (.code yX2_withLetter cX2_withLetter 2 (some .int)) 1 [.int (iI w), .int (iI k)] D cI cJ [] (fun r => r = wjZ w k) := by
  refine PM_of (by decide) rfl (Nat.le_of_ble_eq_true rfl) (fun p e s m below meth c ls hx hb hr hts hown hlk hml hK hP hl => ?_)
  have hl : lv_has ls 2 [(0, .int (iI w)), (1, .int (iI k))] := hl
  refine lv_iload_n hx hb dX2_withLetter_0 rfl (lv_at hl 0 rfl) ?_
  refine zc_S (As := [.int (iI w)]) (rest := []) (ws := []) (n := 1) hx hb (hml.trans hl.1.symm) hts hown hK hP (c_X2_lastLetterOf l D cI cJ w (by omega) (by omega)) (gd_S q_138 q_139 q_1 q_140) (by decide +kernel) rfl ⟨Nat.le_of_ble_eq_true rfl, Nat.le_of_ble_eq_true rfl⟩ ⟨Nat.zero_le _, Nat.zero_le _⟩ [] rfl rfl (Nat.le_of_ble_eq_true rfl) dX2_withLetter_1 (fun r_1 hr_1 => ?_)
  subst hr_1
  refine lv_iload_n hx hb dX2_withLetter_4 rfl (lv_at hl 1 rfl) ?_
  refine zc_S (As := [.int (iI k)]) (rest := [.int (iI (w % 7 - 1))]) (ws := []) (n := 1) hx hb (hml.trans hl.1.symm) hts hown hK hP (c_X2_oppositeOf l D cI cJ k (by omega) (by omega)) (gd_S q_141 q_142 q_1 q_143) (by decide +kernel) rfl ⟨Nat.le_of_ble_eq_true rfl, Nat.le_of_ble_eq_true rfl⟩ ⟨Nat.zero_le _, Nat.zero_le _⟩ [] rfl rfl (Nat.le_of_ble_eq_true rfl) dX2_withLetter_5 (fun r_2 hr_2 => ?_)
  subst hr_2
  have hop := oppZ_b (k := k) (by omega) (by omega)
  refine zv_icmp_ne hx hb dX2_withLetter_8 (tgt := 16) (by decide) ⟨by omega, by omega⟩ ⟨by omega, by omega⟩ (fun c_3 => ?_) (fun c_3 => ?_)
  · refine lv_iload_n hx hb dX2_withLetter_16 rfl (lv_at hl 0 rfl) ?_
    refine zv_bipush hx hb dX2_withLetter_17 (by decide) ?_
    refine zv_imul hx hb dX2_withLetter_19 ?_
    refine lv_iload_n hx hb dX2_withLetter_20 rfl (lv_at hl 1 rfl) ?_
    refine zv_iadd hx hb dX2_withLetter_21 ?_
    refine zv_iconst hx hb dX2_withLetter_22 ?_
    refine zv_iadd hx hb dX2_withLetter_23 ?_
    exact PM_iret hx hb hr hlk dX2_withLetter_24 (by unfold wjZ; split <;> omega)
  · refine lv_iload_n hx hb dX2_withLetter_11 rfl (lv_at hl 0 rfl) ?_
    refine zv_bipush hx hb dX2_withLetter_12 (by decide) ?_
    refine zv_idiv hx hb dX2_withLetter_14 (by omega) (by omega) (by omega) (by omega) ?_
    exact PM_iret hx hb hr hlk dX2_withLetter_15 (by unfold wjZ; split <;> omega)
set_option maxRecDepth 100000 in
set_option maxHeartbeats 4000000 in
theorem c_X2_lettersOf (l : Launch) (D : va_G) (cI cJ : ClassId) (w : Int) (hw0 : 0 ≤ w) (hw1 : w < 343) : PM l yX2_lettersOf (.code yX2_lettersOf cX2_lettersOf 3 (some .int)) 0 [.int (iI w)] D cI cJ [] (fun r => r = lenZ w) := by
  refine PM_of (by decide) rfl (Nat.le_of_ble_eq_true rfl) (fun p e s m below meth c ls hx hb hr hts hown hlk hml hK hP hl => ?_)
  have hl : lv_has ls 3 [(0, .int (iI w))] := hl
  refine zv_iconst hx hb dX2_lettersOf_0 ?_
  refine lv_istore_n (lv' := [(1, .int (iI 0)), (0, .int (iI w))]) hx hb dX2_lettersOf_1 rfl hl (by decide) rfl (fun ls hl => ?_)
  refine lv_iload_n hx hb dX2_lettersOf_2 rfl (lv_at hl 1 rfl) ?_
  refine lv_istore_n (lv' := [(2, .int (iI w)), (1, .int (iI 0)), (0, .int (iI w))]) hx hb dX2_lettersOf_3 rfl hl (by decide) rfl (fun ls hl => ?_)
  refine lv_iload_n hx hb dX2_lettersOf_4 rfl (lv_at hl 0 rfl) ?_
  refine zv_if_le hx hb dX2_lettersOf_5 (tgt := 24) (by decide) ⟨by omega, by omega⟩ (fun c_1 => ?_) (fun c_1 => ?_)
  · refine lv_iload_n hx hb dX2_lettersOf_24 rfl (lv_at hl 1 rfl) ?_
    exact PM_iret hx hb hr hlk dX2_lettersOf_25 (by unfold lenZ; (repeat' split) <;> omega)
  · refine lv_iload_n hx hb dX2_lettersOf_8 rfl (lv_at hl 1 rfl) ?_
    refine zv_iconst hx hb dX2_lettersOf_9 ?_
    refine zv_icmp_ge hx hb dX2_lettersOf_10 (tgt := 24) (by decide) ⟨by omega, by omega⟩ ⟨by omega, by omega⟩ (fun c_2 => by exfalso; omega) (fun c_2 => ?_)
    refine lv_iload_n hx hb dX2_lettersOf_13 rfl (lv_at hl 0 rfl) ?_
    refine zv_bipush hx hb dX2_lettersOf_14 (by decide) ?_
    refine zv_idiv hx hb dX2_lettersOf_16 (by omega) (by omega) (by omega) (by omega) ?_
    refine lv_istore_n (lv' := [(2, .int (iI (w / 7))), (1, .int (iI 0)), (0, .int (iI w))]) hx hb dX2_lettersOf_17 rfl hl (by decide) rfl (fun ls hl => ?_)
    refine zv_iinc (k := 1) (lv' := [(1, .int (iI 1)), (2, .int (iI (w / 7))), (0, .int (iI w))]) hx hb dX2_lettersOf_18 hl rfl (by decide) rfl (fun ls hl => ?_)
    refine lv_goto (tgt := 4) hx hb dX2_lettersOf_21 (by decide) ?_
    refine lv_iload_n hx hb dX2_lettersOf_4 rfl (lv_at hl 1 rfl) ?_
    refine zv_if_le hx hb dX2_lettersOf_5 (tgt := 24) (by decide) ⟨by omega, by omega⟩ (fun c_3 => ?_) (fun c_3 => ?_)
    · refine lv_iload_n hx hb dX2_lettersOf_24 rfl (lv_at hl 0 rfl) ?_
      exact PM_iret hx hb hr hlk dX2_lettersOf_25 (by unfold lenZ; (repeat' split) <;> omega)
    · refine lv_iload_n hx hb dX2_lettersOf_8 rfl (lv_at hl 0 rfl) ?_
      refine zv_iconst hx hb dX2_lettersOf_9 ?_
      refine zv_icmp_ge hx hb dX2_lettersOf_10 (tgt := 24) (by decide) ⟨by omega, by omega⟩ ⟨by omega, by omega⟩ (fun c_4 => by exfalso; omega) (fun c_4 => ?_)
      refine lv_iload_n hx hb dX2_lettersOf_13 rfl (lv_at hl 1 rfl) ?_
      refine zv_bipush hx hb dX2_lettersOf_14 (by decide) ?_
      refine zv_idiv hx hb dX2_lettersOf_16 (by omega) (by omega) (by omega) (by omega) ?_
      refine lv_istore_n (lv' := [(2, .int (iI ((w / 7) / 7))), (1, .int (iI 1)), (0, .int (iI w))]) hx hb dX2_lettersOf_17 rfl hl (by decide) rfl (fun ls hl => ?_)
      refine zv_iinc (k := 1) (lv' := [(1, .int (iI 2)), (2, .int (iI ((w / 7) / 7))), (0, .int (iI w))]) hx hb dX2_lettersOf_18 hl rfl (by decide) rfl (fun ls hl => ?_)
      refine lv_goto (tgt := 4) hx hb dX2_lettersOf_21 (by decide) ?_
      refine lv_iload_n hx hb dX2_lettersOf_4 rfl (lv_at hl 1 rfl) ?_
      refine zv_if_le hx hb dX2_lettersOf_5 (tgt := 24) (by decide) ⟨by omega, by omega⟩ (fun c_5 => ?_) (fun c_5 => ?_)
      · refine lv_iload_n hx hb dX2_lettersOf_24 rfl (lv_at hl 0 rfl) ?_
        exact PM_iret hx hb hr hlk dX2_lettersOf_25 (by unfold lenZ; (repeat' split) <;> omega)
      · refine lv_iload_n hx hb dX2_lettersOf_8 rfl (lv_at hl 0 rfl) ?_
        refine zv_iconst hx hb dX2_lettersOf_9 ?_
        refine zv_icmp_ge hx hb dX2_lettersOf_10 (tgt := 24) (by decide) ⟨by omega, by omega⟩ ⟨by omega, by omega⟩ (fun c_6 => by exfalso; omega) (fun c_6 => ?_)
        refine lv_iload_n hx hb dX2_lettersOf_13 rfl (lv_at hl 1 rfl) ?_
        refine zv_bipush hx hb dX2_lettersOf_14 (by decide) ?_
        refine zv_idiv hx hb dX2_lettersOf_16 (by omega) (by omega) (by omega) (by omega) ?_
        refine lv_istore_n (lv' := [(2, .int (iI (((w / 7) / 7) / 7))), (1, .int (iI 2)), (0, .int (iI w))]) hx hb dX2_lettersOf_17 rfl hl (by decide) rfl (fun ls hl => ?_)
        refine zv_iinc (k := 1) (lv' := [(1, .int (iI 3)), (2, .int (iI (((w / 7) / 7) / 7))), (0, .int (iI w))]) hx hb dX2_lettersOf_18 hl rfl (by decide) rfl (fun ls hl => ?_)
        refine lv_goto (tgt := 4) hx hb dX2_lettersOf_21 (by decide) ?_
        refine lv_iload_n hx hb dX2_lettersOf_4 rfl (lv_at hl 1 rfl) ?_
        refine zv_if_le hx hb dX2_lettersOf_5 (tgt := 24) (by decide) ⟨by omega, by omega⟩ (fun c_7 => ?_) (fun c_7 => ?_)
        · refine lv_iload_n hx hb dX2_lettersOf_24 rfl (lv_at hl 0 rfl) ?_
          exact PM_iret hx hb hr hlk dX2_lettersOf_25 (by unfold lenZ; (repeat' split) <;> omega)
        · refine lv_iload_n hx hb dX2_lettersOf_8 rfl (lv_at hl 0 rfl) ?_
          refine zv_iconst hx hb dX2_lettersOf_9 ?_
          refine zv_icmp_ge hx hb dX2_lettersOf_10 (tgt := 24) (by decide) ⟨by omega, by omega⟩ ⟨by omega, by omega⟩ (fun c_8 => ?_) (fun c_8 => by exfalso; omega)
          refine lv_iload_n hx hb dX2_lettersOf_24 rfl (lv_at hl 0 rfl) ?_
          exact PM_iret hx hb hr hlk dX2_lettersOf_25 (by unfold lenZ; (repeat' split) <;> omega)
set_option maxRecDepth 100000 in
set_option maxHeartbeats 4000000 in
theorem c_X2_between (l : Launch) (D : va_G) (cI cJ : ClassId) (a b d : Int) (ha : InR a) (hb : InR b) (hd : InR d) : PM l yX2_between (.code yX2_between cX2_between 3 (some .int)) 1 [.int (iI a), .int (iI b), .int (iI d)] D cI cJ [] (fun r => r = (if a < (if d < b then d else b) then (if d < b then d else b) else a)) := by
  obtain ⟨ha1, ha2⟩ := ha
  obtain ⟨hb1, hb2⟩ := hb
  obtain ⟨hd1, hd2⟩ := hd
  refine PM_of (by decide) rfl (Nat.le_of_ble_eq_true rfl) (fun p e s m below meth c ls hx hb hr hts hown hlk hml hK hP hl => ?_)
  have hl : lv_has ls 3 [(0, .int (iI a)), (1, .int (iI b)), (2, .int (iI d))] := hl
  refine lv_iload_n hx hb dX2_between_0 rfl (lv_at hl 0 rfl) ?_
  refine lv_iload_n hx hb dX2_between_1 rfl (lv_at hl 1 rfl) ?_
  refine lv_iload_n hx hb dX2_between_2 rfl (lv_at hl 2 rfl) ?_
  refine zj_min hx hb (hml.trans hl.1.symm) hown (hts _ q_44) (hts _ q_45) (hts _ q_4) (hts _ q_46) (Nat.le_of_ble_eq_true rfl) (Nat.le_of_ble_eq_true rfl) (Nat.zero_le _) (Nat.zero_le _) ⟨by omega, by omega⟩ ⟨by omega, by omega⟩ dX2_between_3 ?_
  refine zj_max hx hb (hml.trans hl.1.symm) hown (hts _ q_47) (hts _ q_48) (hts _ q_4) (hts _ q_49) (Nat.le_of_ble_eq_true rfl) (Nat.le_of_ble_eq_true rfl) (Nat.zero_le _) (Nat.zero_le _) ⟨by omega, by omega⟩ ⟨by omega, by omega⟩ dX2_between_6 ?_
  exact PM_iret hx hb hr hlk dX2_between_9 (by first | rfl | omega)
set_option maxRecDepth 100000 in
set_option maxHeartbeats 4000000 in
theorem c_X2_apart (l : Launch) (D : va_G) (cI cJ : ClassId) (a b : Int) (ha0 : 0 ≤ a) (ha1 : a < 49) (hb0 : 0 ≤ b) (hb1 : b < 49) : PM l yX2_apart (.code yX2_apart cX2_apart 2 (some .int)) 1 [.int (iI a), .int (iI b)] D cI cJ [] (fun r => r = absZ (a / 7 - b / 7) + absZ (a % 7 - b % 7)) := by
  refine PM_of (by decide) rfl (Nat.le_of_ble_eq_true rfl) (fun p e s m below meth c ls hx hb hr hts hown hlk hml hK hP hl => ?_)
  have hl : lv_has ls 2 [(0, .int (iI a)), (1, .int (iI b))] := hl
  refine lv_iload_n hx hb dX2_apart_0 rfl (lv_at hl 0 rfl) ?_
  refine zc_S (As := [.int (iI a)]) (rest := []) (ws := []) (n := 1) hx hb (hml.trans hl.1.symm) hts hown hK hP (c_X2_columnOf l D cI cJ a (by omega) (by omega)) (gd_S q_184 q_105 q_1 q_106) (by decide +kernel) rfl ⟨Nat.le_of_ble_eq_true rfl, Nat.le_of_ble_eq_true rfl⟩ ⟨Nat.zero_le _, Nat.zero_le _⟩ [] rfl rfl (Nat.le_of_ble_eq_true rfl) dX2_apart_1 (fun r_1 hr_1 => ?_)
  subst hr_1
  refine lv_iload_n hx hb dX2_apart_4 rfl (lv_at hl 1 rfl) ?_
  refine zc_S (As := [.int (iI b)]) (rest := [.int (iI (a / 7))]) (ws := []) (n := 1) hx hb (hml.trans hl.1.symm) hts hown hK hP (c_X2_columnOf l D cI cJ b (by omega) (by omega)) (gd_S q_184 q_105 q_1 q_106) (by decide +kernel) rfl ⟨Nat.le_of_ble_eq_true rfl, Nat.le_of_ble_eq_true rfl⟩ ⟨Nat.zero_le _, Nat.zero_le _⟩ [] rfl rfl (Nat.le_of_ble_eq_true rfl) dX2_apart_5 (fun r_2 hr_2 => ?_)
  subst hr_2
  refine zv_isub hx hb dX2_apart_8 ?_
  refine zj_abs hx hb (hml.trans hl.1.symm) hown (hts _ q_444) (hts _ q_445) (hts _ q_4) (hts _ q_446) (Nat.le_of_ble_eq_true rfl) (Nat.le_of_ble_eq_true rfl) (Nat.zero_le _) (Nat.zero_le _) ⟨by omega, by omega⟩ dX2_apart_9 ?_
  refine lv_iload_n hx hb dX2_apart_12 rfl (lv_at hl 0 rfl) ?_
  refine zc_S (As := [.int (iI a)]) (rest := [.int (iI (if 0 ≤ (a / 7 - b / 7) then (a / 7 - b / 7) else 0 - (a / 7 - b / 7)))]) (ws := []) (n := 1) hx hb (hml.trans hl.1.symm) hts hown hK hP (c_X2_rowOf l D cI cJ a (by omega) (by omega)) (gd_S q_189 q_108 q_1 q_109) (by decide +kernel) rfl ⟨Nat.le_of_ble_eq_true rfl, Nat.le_of_ble_eq_true rfl⟩ ⟨Nat.zero_le _, Nat.zero_le _⟩ [] rfl rfl (Nat.le_of_ble_eq_true rfl) dX2_apart_13 (fun r_3 hr_3 => ?_)
  subst hr_3
  refine lv_iload_n hx hb dX2_apart_16 rfl (lv_at hl 1 rfl) ?_
  refine zc_S (As := [.int (iI b)]) (rest := [.int (iI (a % 7)), .int (iI (if 0 ≤ (a / 7 - b / 7) then (a / 7 - b / 7) else 0 - (a / 7 - b / 7)))]) (ws := []) (n := 1) hx hb (hml.trans hl.1.symm) hts hown hK hP (c_X2_rowOf l D cI cJ b (by omega) (by omega)) (gd_S q_189 q_108 q_1 q_109) (by decide +kernel) rfl ⟨Nat.le_of_ble_eq_true rfl, Nat.le_of_ble_eq_true rfl⟩ ⟨Nat.zero_le _, Nat.zero_le _⟩ [] rfl rfl (Nat.le_of_ble_eq_true rfl) dX2_apart_17 (fun r_4 hr_4 => ?_)
  subst hr_4
  refine zv_isub hx hb dX2_apart_20 ?_
  refine zj_abs hx hb (hml.trans hl.1.symm) hown (hts _ q_444) (hts _ q_445) (hts _ q_4) (hts _ q_446) (Nat.le_of_ble_eq_true rfl) (Nat.le_of_ble_eq_true rfl) (Nat.zero_le _) (Nat.zero_le _) ⟨by omega, by omega⟩ dX2_apart_21 ?_
  refine zv_iadd hx hb dX2_apart_24 ?_
  exact PM_iret hx hb hr hlk dX2_apart_25 (by first | rfl | omega)
set_option maxRecDepth 100000 in
set_option maxHeartbeats 4000000 in
theorem c_X0_has (l : Launch) (D : va_G) (cI cJ : ClassId) (fl pn : Nat) (C R np : Int) (gn : Nat → Int) (N : Int → Int) (a b : Int) (hF : FlOK C R np N gn) (ha1 : -2147483648 ≤ a) (ha2 : a < 2147483648) (hb1 : -2147483648 ≤ b) (hb2 : b < 2147483648) : PM l yX0_has (.code yX0_has cX0_has 3 (some .boolean)) 0 [.ref fl, .int (iI a), .int (iI b)] D cI cJ [(fl, .inr (0, [.int (iI C), .int (iI R), .ref pn, .int (iI np)])), (pn, .inl (cI, 49, .inl (aI gn)))] (fun r => (r = 1 ∧ (0 ≤ a ∧ a < C ∧ 0 ≤ b ∧ b < R)) ∨ (r = 0 ∧ ¬ (0 ≤ a ∧ a < C ∧ 0 ≤ b ∧ b < R))) := by
  obtain ⟨hC1, hC2, hR1, hR2, hp1, hp2, -, -⟩ := id hF
  refine PM_of (by decide) rfl (Nat.le_of_ble_eq_true rfl) (fun p e s m below meth c ls hx hb hr hts hown hlk hml hK hP hl => ?_)
  have hl : lv_has ls 3 [(0, .ref fl), (1, .int (iI a)), (2, .int (iI b))] := hl
  refine lv_iload_n hx hb dX0_has_0 rfl (lv_at hl 1 rfl) ?_
  refine zv_if_lt hx hb dX0_has_1 (tgt := 28) (by decide) ⟨by omega, by omega⟩ (fun c_1 => ?_) (fun c_1 => ?_)
  · refine zv_iconst hx hb dX0_has_28 ?_
    exact PM_zret hx hb hr hlk dX0_has_29 (by first | rfl | decide) (by omega)
  · refine lv_iload_n hx hb dX0_has_4 rfl (lv_at hl 1 rfl) ?_
    refine lv_aload_n hx hb dX0_has_5 rfl (lv_at hl 0 rfl) ?_
    refine va_get (D := D) (ci := 0) (v := .int (iI C)) (C := RX0) (T := TX0) (N := 4) hx hb hts uX0 hown hK.1 hP 0 rfl rfl 0 (by decide) (hts _ q_57) (fun _ h9 => h9) rfl dX0_has_6 ?_
    refine zv_icmp_ge hx hb dX0_has_9 (tgt := 28) (by decide) ⟨by omega, by omega⟩ ⟨by omega, by omega⟩ (fun c_2 => ?_) (fun c_2 => ?_)
    · refine zv_iconst hx hb dX0_has_28 ?_
      exact PM_zret hx hb hr hlk dX0_has_29 (by first | rfl | decide) (by omega)
    · refine lv_iload_n hx hb dX0_has_12 rfl (lv_at hl 2 rfl) ?_
      refine zv_if_lt hx hb dX0_has_13 (tgt := 28) (by decide) ⟨by omega, by omega⟩ (fun c_3 => ?_) (fun c_3 => ?_)
      · refine zv_iconst hx hb dX0_has_28 ?_
        exact PM_zret hx hb hr hlk dX0_has_29 (by first | rfl | decide) (by omega)
      · refine lv_iload_n hx hb dX0_has_16 rfl (lv_at hl 2 rfl) ?_
        refine lv_aload_n hx hb dX0_has_17 rfl (lv_at hl 0 rfl) ?_
        refine va_get (D := D) (ci := 0) (v := .int (iI R)) (C := RX0) (T := TX0) (N := 4) hx hb hts uX0 hown hK.1 hP 0 rfl rfl 1 (by decide) (hts _ q_58) (fun _ h9 => h9) rfl dX0_has_18 ?_
        refine zv_icmp_ge hx hb dX0_has_21 (tgt := 28) (by decide) ⟨by omega, by omega⟩ ⟨by omega, by omega⟩ (fun c_4 => ?_) (fun c_4 => ?_)
        · refine zv_iconst hx hb dX0_has_28 ?_
          exact PM_zret hx hb hr hlk dX0_has_29 (by first | rfl | decide) (by omega)
        · refine zv_iconst hx hb dX0_has_24 ?_
          refine lv_goto (tgt := 29) hx hb dX0_has_25 (by decide) ?_
          exact PM_zret hx hb hr hlk dX0_has_29 (by first | rfl | decide) (by omega)
set_option maxRecDepth 100000 in
set_option maxHeartbeats 4000000 in
theorem c_X0_isFull (l : Launch) (D : va_G) (cI cJ : ClassId) (fl pn : Nat) (C R np : Int) (gn : Nat → Int) (N : Int → Int) (hF : FlOK C R np N gn) : PM l yX0_isFull (.code yX0_isFull cX0_isFull 1 (some .boolean)) 0 [.ref fl] D cI cJ [(fl, .inr (0, [.int (iI C), .int (iI R), .ref pn, .int (iI np)])), (pn, .inl (cI, 49, .inl (aI gn)))] (fun r => (r = 1 ∧ np = 3) ∨ (r = 0 ∧ ¬ np = 3)) := by
  obtain ⟨hC1, hC2, hR1, hR2, hp1, hp2, -, -⟩ := id hF
  refine PM_of (by decide) rfl (Nat.le_of_ble_eq_true rfl) (fun p e s m below meth c ls hx hb hr hts hown hlk hml hK hP hl => ?_)
  have hl : lv_has ls 1 [(0, .ref fl)] := hl
  refine lv_aload_n hx hb dX0_isFull_0 rfl (lv_at hl 0 rfl) ?_
  refine va_get (D := D) (ci := 0) (v := .int (iI np)) (C := RX0) (T := TX0) (N := 4) hx hb hts uX0 hown hK.1 hP 0 rfl rfl 3 (by decide) (hts _ q_60) (fun _ h9 => h9) rfl dX0_isFull_1 ?_
  refine zv_iconst hx hb dX0_isFull_4 ?_
  refine zv_icmp_lt hx hb dX0_isFull_5 (tgt := 12) (by decide) ⟨by omega, by omega⟩ ⟨by omega, by omega⟩ (fun c_1 => ?_) (fun c_1 => ?_)
  · refine zv_iconst hx hb dX0_isFull_12 ?_
    exact PM_zret hx hb hr hlk dX0_isFull_13 (by first | rfl | decide) (by omega)
  · refine zv_iconst hx hb dX0_isFull_8 ?_
    refine lv_goto (tgt := 13) hx hb dX0_isFull_9 (by decide) ?_
    exact PM_zret hx hb hr hlk dX0_isFull_13 (by first | rfl | decide) (by omega)
set_option maxRecDepth 100000 in
set_option maxHeartbeats 4000000 in
theorem c_X0_pillarNumberOf (l : Launch) (D : va_G) (cI cJ : ClassId) (fl pn : Nat) (C R np : Int) (gn : Nat → Int) (N : Int → Int) (z : Int) (hF : FlOK C R np N gn) (hz1 : -2147483648 ≤ z) (hz2 : z < 2147483648) : PM l yX0_pillarNumberOf (.code yX0_pillarNumberOf cX0_pillarNumberOf 2 (some .int)) 0 [.ref fl, .int (iI z)] D cI cJ [(fl, .inr (0, [.int (iI C), .int (iI R), .ref pn, .int (iI np)])), (pn, .inl (cI, 49, .inl (aI gn)))] (fun r => r = N z) := by
  obtain ⟨hC1, hC2, hR1, hR2, hp1, hp2, -, -⟩ := id hF
  refine PM_of (by decide) rfl (Nat.le_of_ble_eq_true rfl) (fun p e s m below meth c ls hx hb hr hts hown hlk hml hK hP hl => ?_)
  have hl : lv_has ls 2 [(0, .ref fl), (1, .int (iI z))] := hl
  refine lv_iload_n hx hb dX0_pillarNumberOf_0 rfl (lv_at hl 1 rfl) ?_
  refine zv_if_lt hx hb dX0_pillarNumberOf_1 (tgt := 22) (by decide) ⟨by omega, by omega⟩ (fun c_1 => ?_) (fun c_1 => ?_)
  · refine zv_iconst hx hb dX0_pillarNumberOf_22 ?_
    exact PM_iret hx hb hr hlk dX0_pillarNumberOf_23 (by first | rfl | exact (hF.Nout z (by omega)).symm)
  · refine lv_iload_n hx hb dX0_pillarNumberOf_4 rfl (lv_at hl 1 rfl) ?_
    refine lv_aload_n hx hb dX0_pillarNumberOf_5 rfl (lv_at hl 0 rfl) ?_
    refine va_get (D := D) (ci := 0) (v := .ref pn) (C := RX0) (T := TX0) (N := 4) hx hb hts uX0 hown hK.1 hP 0 rfl rfl 2 (by decide) (hts _ q_59) (fun _ h9 => h9) rfl dX0_pillarNumberOf_6 ?_
    refine zv_alen hx hb hK.1 hP 1 0 rfl rfl dX0_pillarNumberOf_9 ?_
    refine zv_icmp_ge hx hb dX0_pillarNumberOf_10 (tgt := 22) (by decide) ⟨by omega, by omega⟩ ⟨by omega, by omega⟩ (fun c_2 => ?_) (fun c_2 => ?_)
    · refine zv_iconst hx hb dX0_pillarNumberOf_22 ?_
      exact PM_iret hx hb hr hlk dX0_pillarNumberOf_23 (by first | rfl | exact (hF.Nout z (by omega)).symm)
    · refine lv_aload_n hx hb dX0_pillarNumberOf_13 rfl (lv_at hl 0 rfl) ?_
      refine va_get (D := D) (ci := 0) (v := .ref pn) (C := RX0) (T := TX0) (N := 4) hx hb hts uX0 hown hK.1 hP 0 rfl rfl 2 (by decide) (hts _ q_59) (fun _ h9 => h9) rfl dX0_pillarNumberOf_14 ?_
      refine lv_iload_n hx hb dX0_pillarNumberOf_17 rfl (lv_at hl 1 rfl) ?_
      refine zv_iald hx hb hK.1 hP 1 0 rfl rfl (by omega) (by omega) (by omega) dX0_pillarNumberOf_18 ?_
      refine zv_top (y := N z) (hF.gn (by omega) (by omega)) ?_
      refine lv_goto (tgt := 23) hx hb dX0_pillarNumberOf_19 (by decide) ?_
      exact PM_iret hx hb hr hlk dX0_pillarNumberOf_23 (by first | rfl | exact (hF.Nout z (by omega)).symm)
set_option maxRecDepth 100000 in
set_option maxHeartbeats 4000000 in
theorem c_X0_isPillar (l : Launch) (D : va_G) (cI cJ : ClassId) (fl pn : Nat) (C R np : Int) (gn : Nat → Int) (N : Int → Int) (z : Int) (hF : FlOK C R np N gn) (hz1 : -2147483648 ≤ z) (hz2 : z < 2147483648) : PM l yX0_isPillar (.code yX0_isPillar cX0_isPillar 2 (some .boolean)) 1 [.ref fl, .int (iI z)] D cI cJ [(fl, .inr (0, [.int (iI C), .int (iI R), .ref pn, .int (iI np)])), (pn, .inl (cI, 49, .inl (aI gn)))] (fun r => (r = 1 ∧ N z ≠ -1) ∨ (r = 0 ∧ N z = -1)) := by
  obtain ⟨hC1, hC2, hR1, hR2, hp1, hp2, -, -⟩ := id hF
  refine PM_of (by decide) rfl (Nat.le_of_ble_eq_true rfl) (fun p e s m below meth c ls hx hb hr hts hown hlk hml hK hP hl => ?_)
  have hl : lv_has ls 2 [(0, .ref fl), (1, .int (iI z))] := hl
  refine lv_aload_n hx hb dX0_isPillar_0 rfl (lv_at hl 0 rfl) ?_
  refine lv_iload_n hx hb dX0_isPillar_1 rfl (lv_at hl 1 rfl) ?_
  refine zc_V (As := [.int (iI z)]) (rest := []) (ws := [(fl, .inr (0, [.int (iI C), .int (iI R), .ref pn, .int (iI np)])), (pn, .inl (cI, 49, .inl (aI gn)))]) (n := 1) hx hb (hml.trans hl.1.symm) hts hown hK hP (c_X0_pillarNumberOf l D cI cJ fl pn C R np gn N z hF (by omega) (by omega)) (gd_V q_126 q_128 q_1003 q_3 q_129) (by decide +kernel) rfl ⟨Nat.le_of_ble_eq_true rfl, Nat.le_of_ble_eq_true rfl⟩ ⟨Nat.zero_le _, Nat.zero_le _⟩ [0, 1] rfl 0 (ci := 0) rfl rfl rfl rfl (Nat.le_of_ble_eq_true rfl) dX0_isPillar_2 (fun r_1 hr_1 => ?_)
  subst hr_1
  refine zv_iconst hx hb dX0_isPillar_5 ?_
  have hN2 := hF.N2 z
  refine zv_icmp_eq hx hb dX0_isPillar_6 (tgt := 13) (by decide) ⟨by omega, by omega⟩ ⟨by omega, by omega⟩ (fun c_2 => ?_) (fun c_2 => ?_)
  · refine zv_iconst hx hb dX0_isPillar_13 ?_
    exact PM_zret hx hb hr hlk dX0_isPillar_14 (by first | rfl | decide) (by omega)
  · refine zv_iconst hx hb dX0_isPillar_9 ?_
    refine lv_goto (tgt := 14) hx hb dX0_isPillar_10 (by decide) ?_
    exact PM_zret hx hb hr hlk dX0_isPillar_14 (by first | rfl | decide) (by omega)
set_option maxRecDepth 100000 in
set_option maxHeartbeats 4000000 in
theorem c_X0_placeAt (l : Launch) (D : va_G) (cI cJ : ClassId) (fl pn : Nat) (C R np : Int) (gn : Nat → Int) (N : Int → Int) (a b w : Int) (hF : FlOK C R np N gn) (ha1 : -2 ≤ a) (ha2 : a ≤ 8) (hb1 : -2 ≤ b) (hb2 : b ≤ 8) (hw0 : 0 ≤ w) (hw1 : w < 2147483648) : PM l yX0_placeAt (.code yX0_placeAt cX0_placeAt 4 (some .int)) 2 [.ref fl, .int (iI a), .int (iI b), .int (iI w)] D cI cJ [(fl, .inr (0, [.int (iI C), .int (iI R), .ref pn, .int (iI np)])), (pn, .inl (cI, 49, .inl (aI gn)))] (fun r => r = plZ C R N a b w) := by
  obtain ⟨hC1, hC2, hR1, hR2, hp1, hp2, -, -⟩ := id hF
  refine PM_of (by decide) rfl (Nat.le_of_ble_eq_true rfl) (fun p e s m below meth c ls hx hb hr hts hown hlk hml hK hP hl => ?_)
  have hl : lv_has ls 4 [(0, .ref fl), (1, .int (iI a)), (2, .int (iI b)), (3, .int (iI w))] := hl
  refine lv_iload_n hx hb dX0_placeAt_0 rfl (lv_at hl 3 rfl) ?_
  refine zv_sipush hx hb dX0_placeAt_1 (by decide) ?_
  refine zv_icmp_ge hx hb dX0_placeAt_4 (tgt := 28) (by decide) ⟨by omega, by omega⟩ ⟨by omega, by omega⟩ (fun c_1 => ?_) (fun c_1 => ?_)
  · refine zv_iconst hx hb dX0_placeAt_28 ?_
    exact PM_iret hx hb hr hlk dX0_placeAt_29 (by unfold plZ; first | rw [if_neg (by omega)] | rw [if_pos ⟨by omega, by omega, by omega, by omega, by omega, by omega⟩])
  · refine lv_aload_n hx hb dX0_placeAt_7 rfl (lv_at hl 0 rfl) ?_
    refine lv_iload_n hx hb dX0_placeAt_8 rfl (lv_at hl 1 rfl) ?_
    refine lv_iload_n hx hb dX0_placeAt_9 rfl (lv_at hl 2 rfl) ?_
    refine zc_V (As := [.int (iI a), .int (iI b)]) (rest := []) (ws := [(fl, .inr (0, [.int (iI C), .int (iI R), .ref pn, .int (iI np)])), (pn, .inl (cI, 49, .inl (aI gn)))]) (n := 2) hx hb (hml.trans hl.1.symm) hts hown hK hP (c_X0_has l D cI cJ fl pn C R np gn N a b hF (by omega) (by omega) (by omega) (by omega)) (gd_V q_117 q_118 q_119 q_3 q_120) (by decide +kernel) rfl ⟨Nat.le_of_ble_eq_true rfl, Nat.le_of_ble_eq_true rfl⟩ ⟨Nat.zero_le _, Nat.zero_le _⟩ [0, 1] rfl 0 (ci := 0) rfl rfl rfl rfl (Nat.le_of_ble_eq_true rfl) dX0_placeAt_10 (fun r_2 hr_2 => ?_)
    refine zv_if_eq hx hb dX0_placeAt_13 (tgt := 28) (by decide) ⟨by omega, by omega⟩ (fun c_3 => ?_) (fun c_3 => ?_)
    · refine zv_iconst hx hb dX0_placeAt_28 ?_
      exact PM_iret hx hb hr hlk dX0_placeAt_29 (by unfold plZ; first | rw [if_neg (by omega)] | rw [if_pos ⟨by omega, by omega, by omega, by omega, by omega, by omega⟩])
    · refine lv_aload_n hx hb dX0_placeAt_16 rfl (lv_at hl 0 rfl) ?_
      refine lv_iload_n hx hb dX0_placeAt_17 rfl (lv_at hl 1 rfl) ?_
      refine lv_iload_n hx hb dX0_placeAt_18 rfl (lv_at hl 2 rfl) ?_
      refine zc_SN (As := [.int (iI a), .int (iI b)]) (rest := [.ref fl]) (ws := [(fl, .inr (0, [.int (iI C), .int (iI R), .ref pn, .int (iI np)])), (pn, .inl (cI, 49, .inl (aI gn)))]) (n := 2) hx hb (hml.trans hl.1.symm) hts hown hK hP (c_X2_squareAt l D cI cJ a b) q_72 q_71 q_1 (by decide +kernel) (by decide +kernel) rfl ⟨Nat.le_of_ble_eq_true rfl, Nat.le_of_ble_eq_true rfl⟩ ⟨Nat.zero_le _, Nat.zero_le _⟩ [] rfl rfl (Nat.le_of_ble_eq_true rfl) dX0_placeAt_19 (fun r_4 hr_4 => ?_)
      subst hr_4
      refine zc_V (As := [.int (iI (a * 7 + b))]) (rest := []) (ws := [(fl, .inr (0, [.int (iI C), .int (iI R), .ref pn, .int (iI np)])), (pn, .inl (cI, 49, .inl (aI gn)))]) (n := 1) hx hb (hml.trans hl.1.symm) hts hown hK hP (c_X0_isPillar l D cI cJ fl pn C R np gn N (a * 7 + b) hF (by omega) (by omega)) (gd_V q_122 q_123 q_124 q_3 q_125) (by decide +kernel) rfl ⟨Nat.le_of_ble_eq_true rfl, Nat.le_of_ble_eq_true rfl⟩ ⟨Nat.zero_le _, Nat.zero_le _⟩ [0, 1] rfl 0 (ci := 0) rfl rfl rfl rfl (Nat.le_of_ble_eq_true rfl) dX0_placeAt_22 (fun r_5 hr_5 => ?_)
      refine zv_if_eq hx hb dX0_placeAt_25 (tgt := 30) (by decide) ⟨by omega, by omega⟩ (fun c_6 => ?_) (fun c_6 => ?_)
      · refine lv_iload_n hx hb dX0_placeAt_30 rfl (lv_at hl 1 rfl) ?_
        refine lv_iload_n hx hb dX0_placeAt_31 rfl (lv_at hl 2 rfl) ?_
        refine zc_SN (As := [.int (iI a), .int (iI b)]) (rest := []) (ws := [(fl, .inr (0, [.int (iI C), .int (iI R), .ref pn, .int (iI np)])), (pn, .inl (cI, 49, .inl (aI gn)))]) (n := 2) hx hb (hml.trans hl.1.symm) hts hown hK hP (c_X2_squareAt l D cI cJ a b) q_72 q_71 q_1 (by decide +kernel) (by decide +kernel) rfl ⟨Nat.le_of_ble_eq_true rfl, Nat.le_of_ble_eq_true rfl⟩ ⟨Nat.zero_le _, Nat.zero_le _⟩ [] rfl rfl (Nat.le_of_ble_eq_true rfl) dX0_placeAt_32 (fun r_7 hr_7 => ?_)
        subst hr_7
        refine lv_iload_n hx hb dX0_placeAt_35 rfl (lv_at hl 3 rfl) ?_
        refine zc_SN (As := [.int (iI (a * 7 + b)), .int (iI w)]) (rest := []) (ws := [(fl, .inr (0, [.int (iI C), .int (iI R), .ref pn, .int (iI np)])), (pn, .inl (cI, 49, .inl (aI gn)))]) (n := 2) hx hb (hml.trans hl.1.symm) hts hown hK hP (c_X2_placeOf l D cI cJ (a * 7 + b) w) q_75 q_74 q_1 (by decide +kernel) (by decide +kernel) rfl ⟨Nat.le_of_ble_eq_true rfl, Nat.le_of_ble_eq_true rfl⟩ ⟨Nat.zero_le _, Nat.zero_le _⟩ [] rfl rfl (Nat.le_of_ble_eq_true rfl) dX0_placeAt_36 (fun r_8 hr_8 => ?_)
        subst hr_8
        exact PM_iret hx hb hr hlk dX0_placeAt_39 (by unfold plZ; first | rw [if_neg (by omega)] | rw [if_pos ⟨by omega, by omega, by omega, by omega, by omega, by omega⟩])
      · refine zv_iconst hx hb dX0_placeAt_28 ?_
        exact PM_iret hx hb hr hlk dX0_placeAt_29 (by unfold plZ; first | rw [if_neg (by omega)] | rw [if_pos ⟨by omega, by omega, by omega, by omega, by omega, by omega⟩])
