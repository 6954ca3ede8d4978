set_option maxRecDepth 100000 in
set_option maxHeartbeats 4000000 in
theorem c_X3_column (l : Launch) (D : va_G) (cI cJ : ClassId) (mm ac ar al aq ab : Nat) (th C R lim np qb qs wd sm : Int) (P : Int) (hPb : 0 ≤ P ∧ P < 16807) (hqs : 343 * qs + wd = tauZ P) (hwd : 0 ≤ wd ∧ wd < 343) (sz : Nat) : MMi l yX3_column (.code yX3_column cX3_column 1 (some .int)) 0 0 0 [.ref mm] D cI cJ [(mm, .inr (3, [.int (iI th), .int (iI C), .int (iI R), .int (iI lim), .int (iI np), .ref ac, .ref ar, .int (iI qb), .int (iI qs), .int (iI wd), .int (iI sm), .ref al, .ref aq, .ref ab]))] sz (fun (r : Int) (u : Unit) => r = P / 343 / 7) (fun u : Unit => [(mm, .inr (3, [.int (iI 0), .int (iI C), .int (iI R), .int (iI lim), .int (iI np), .ref ac, .ref ar, .int (iI qb), .int (iI qs), .int (iI wd), .int (iI sm), .ref al, .ref aq, .ref ab]))]) := by
  obtain ⟨hP0, hP1⟩ := hPb
  obtain ⟨hw0, hw1⟩ := hwd
  have htz := tauZ_of hP0 hP1
  have hqv : qs = P / 343 % 7 * 7 + P / 343 / 7 := by omega
  have hwv : wd = P % 343 := by omega
  refine MM_of (Qc := fun A => QMi D A (fun (r : Int) (u : Unit) => r = P / 343 / 7) (fun u : Unit => [(mm, .inr (3, [.int (iI 0), .int (iI C), .int (iI R), .int (iI lim), .int (iI np), .ref ac, .ref ar, .int (iI qb), .int (iI qs), .int (iI wd), .int (iI sm), .ref al, .ref aq, .ref ab]))])) (by decide) rfl (Nat.le_of_ble_eq_true rfl) (fun p e s m below meth c ls A hx hb hr hts hown hlk hml hin hK hP hD hA hS hl => ?_)
  have hl : lv_has ls 1 [(0, .ref mm)] := hl
  refine lv_aload_n hx hb dX3_column_0 rfl (lv_at hl 0 rfl) ?_
  refine zv_iconst hx hb dX3_column_1 ?_
  refine va_put (D := D) (ci := 3) (v := .int (iI 0)) (ty := .int) (C := RX3) (T := TX3) (N := 14) hx hb hts uX3 tyX3 tyX3_ok nmX3 hown hK.1 hP hD hS 0 rfl rfl 0 (by decide) (hts _ q_526) (fun _ h9 => h9) rfl (by decide +kernel) rfl rfl (Nat.le_of_ble_eq_true rfl) dX3_column_2 (fun H locs hP hD hS => ?_)
  have hP : va_P D vwCl [(mm, .inr (3, [.int (iI 0), .int (iI C), .int (iI R), .int (iI lim), .int (iI np), .ref ac, .ref ar, .int (iI qb), .int (iI qs), .int (iI wd), .int (iI sm), .ref al, .ref aq, .ref ab]))] H := hP
  have hD : va_D A [(mm, .inr (3, [.int (iI 0), .int (iI C), .int (iI R), .int (iI lim), .int (iI np), .ref ac, .ref ar, .int (iI qb), .int (iI qs), .int (iI wd), .int (iI sm), .ref al, .ref aq, .ref ab]))] := hD
  refine lv_aload_n hx hb dX3_column_5 rfl (lv_at hl 0 rfl) ?_
  refine va_get (D := D) (ci := 3) (v := .int (iI qs)) (C := RX3) (T := TX3) (N := 14) hx hb hts uX3 hown hK.1 hP 0 rfl rfl 8 (by decide) (hts _ q_534) (fun _ h9 => h9) rfl dX3_column_6 ?_
  refine zv_bipush hx hb dX3_column_9 (by decide) ?_
  refine zv_irem hx hb dX3_column_11 (by omega) (by omega) (by omega) (by omega) ?_
  exact MM_iret (()) hx hb hr hlk hP hD hS (Nat.le_of_ble_eq_true rfl) (Nat.le_of_ble_eq_true rfl) dX3_column_12 (by omega)
set_option maxRecDepth 100000 in
set_option maxHeartbeats 4000000 in
theorem c_X3_row (l : Launch) (D : va_G) (cI cJ : ClassId) (mm ac ar al aq ab : Nat) (th C R lim np qb qs wd sm : Int) (P : Int) (hPb : 0 ≤ P ∧ P < 16807) (hqs : 343 * qs + wd = tauZ P) (hwd : 0 ≤ wd ∧ wd < 343) (sz : Nat) : MMi l yX3_row (.code yX3_row cX3_row 1 (some .int)) 0 0 0 [.ref mm] D cI cJ [(mm, .inr (3, [.int (iI th), .int (iI C), .int (iI R), .int (iI lim), .int (iI np), .ref ac, .ref ar, .int (iI qb), .int (iI qs), .int (iI wd), .int (iI sm), .ref al, .ref aq, .ref ab]))] sz (fun (r : Int) (u : Unit) => r = P / 343 % 7) (fun u : Unit => [(mm, .inr (3, [.int (iI 0), .int (iI C), .int (iI R), .int (iI lim), .int (iI np), .ref ac, .ref ar, .int (iI qb), .int (iI qs), .int (iI wd), .int (iI sm), .ref al, .ref aq, .ref ab]))]) := by
  obtain ⟨hP0, hP1⟩ := hPb
  obtain ⟨hw0, hw1⟩ := hwd
  have htz := tauZ_of hP0 hP1
  have hqv : qs = P / 343 % 7 * 7 + P / 343 / 7 := by omega
  have hwv : wd = P % 343 := by omega
  refine MM_of (Qc := fun A => QMi D A (fun (r : Int) (u : Unit) => r = P / 343 % 7) (fun u : Unit => [(mm, .inr (3, [.int (iI 0), .int (iI C), .int (iI R), .int (iI lim), .int (iI np), .ref ac, .ref ar, .int (iI qb), .int (iI qs), .int (iI wd), .int (iI sm), .ref al, .ref aq, .ref ab]))])) (by decide) rfl (Nat.le_of_ble_eq_true rfl) (fun p e s m below meth c ls A hx hb hr hts hown hlk hml hin hK hP hD hA hS hl => ?_)
  have hl : lv_has ls 1 [(0, .ref mm)] := hl
  refine lv_aload_n hx hb dX3_row_0 rfl (lv_at hl 0 rfl) ?_
  refine zv_iconst hx hb dX3_row_1 ?_
  refine va_put (D := D) (ci := 3) (v := .int (iI 0)) (ty := .int) (C := RX3) (T := TX3) (N := 14) hx hb hts uX3 tyX3 tyX3_ok nmX3 hown hK.1 hP hD hS 0 rfl rfl 0 (by decide) (hts _ q_526) (fun _ h9 => h9) rfl (by decide +kernel) rfl rfl (Nat.le_of_ble_eq_true rfl) dX3_row_2 (fun H locs hP hD hS => ?_)
  have hP : va_P D vwCl [(mm, .inr (3, [.int (iI 0), .int (iI C), .int (iI R), .int (iI lim), .int (iI np), .ref ac, .ref ar, .int (iI qb), .int (iI qs), .int (iI wd), .int (iI sm), .ref al, .ref aq, .ref ab]))] H := hP
  have hD : va_D A [(mm, .inr (3, [.int (iI 0), .int (iI C), .int (iI R), .int (iI lim), .int (iI np), .ref ac, .ref ar, .int (iI qb), .int (iI qs), .int (iI wd), .int (iI sm), .ref al, .ref aq, .ref ab]))] := hD
  refine lv_aload_n hx hb dX3_row_5 rfl (lv_at hl 0 rfl) ?_
  refine va_get (D := D) (ci := 3) (v := .int (iI qs)) (C := RX3) (T := TX3) (N := 14) hx hb hts uX3 hown hK.1 hP 0 rfl rfl 8 (by decide) (hts _ q_534) (fun _ h9 => h9) rfl dX3_row_6 ?_
  refine zv_bipush hx hb dX3_row_9 (by decide) ?_
  refine zv_idiv hx hb dX3_row_11 (by omega) (by omega) (by omega) (by omega) ?_
  exact MM_iret (()) hx hb hr hlk hP hD hS (Nat.le_of_ble_eq_true rfl) (Nat.le_of_ble_eq_true rfl) dX3_row_12 (by omega)
set_option maxRecDepth 100000 in
set_option maxHeartbeats 4000000 in
theorem c_X3_steps (l : Launch) (D : va_G) (cI cJ : ClassId) (mm ac ar al aq ab : Nat) (th C R lim np qb qs wd sm : Int) (P : Int) (hPb : 0 ≤ P ∧ P < 16807) (hqs : 343 * qs + wd = tauZ P) (hwd : 0 ≤ wd ∧ wd < 343) (sz : Nat) : MMi l yX3_steps (.code yX3_steps cX3_steps 1 (some .int)) 0 0 0 [.ref mm] D cI cJ [(mm, .inr (3, [.int (iI th), .int (iI C), .int (iI R), .int (iI lim), .int (iI np), .ref ac, .ref ar, .int (iI qb), .int (iI qs), .int (iI wd), .int (iI sm), .ref al, .ref aq, .ref ab]))] sz (fun (r : Int) (u : Unit) => r = sm) (fun u : Unit => [(mm, .inr (3, [.int (iI 0), .int (iI C), .int (iI R), .int (iI lim), .int (iI np), .ref ac, .ref ar, .int (iI qb), .int (iI qs), .int (iI wd), .int (iI sm), .ref al, .ref aq, .ref ab]))]) := by
  obtain ⟨hP0, hP1⟩ := hPb
  obtain ⟨hw0, hw1⟩ := hwd
  have htz := tauZ_of hP0 hP1
  have hqv : qs = P / 343 % 7 * 7 + P / 343 / 7 := by omega
  have hwv : wd = P % 343 := by omega
  refine MM_of (Qc := fun A => QMi D A (fun (r : Int) (u : Unit) => r = sm) (fun u : Unit => [(mm, .inr (3, [.int (iI 0), .int (iI C), .int (iI R), .int (iI lim), .int (iI np), .ref ac, .ref ar, .int (iI qb), .int (iI qs), .int (iI wd), .int (iI sm), .ref al, .ref aq, .ref ab]))])) (by decide) rfl (Nat.le_of_ble_eq_true rfl) (fun p e s m below meth c ls A hx hb hr hts hown hlk hml hin hK hP hD hA hS hl => ?_)
  have hl : lv_has ls 1 [(0, .ref mm)] := hl
  refine lv_aload_n hx hb dX3_steps_0 rfl (lv_at hl 0 rfl) ?_
  refine zv_iconst hx hb dX3_steps_1 ?_
  refine va_put (D := D) (ci := 3) (v := .int (iI 0)) (ty := .int) (C := RX3) (T := TX3) (N := 14) hx hb hts uX3 tyX3 tyX3_ok nmX3 hown hK.1 hP hD hS 0 rfl rfl 0 (by decide) (hts _ q_526) (fun _ h9 => h9) rfl (by decide +kernel) rfl rfl (Nat.le_of_ble_eq_true rfl) dX3_steps_2 (fun H locs hP hD hS => ?_)
  have hP : va_P D vwCl [(mm, .inr (3, [.int (iI 0), .int (iI C), .int (iI R), .int (iI lim), .int (iI np), .ref ac, .ref ar, .int (iI qb), .int (iI qs), .int (iI wd), .int (iI sm), .ref al, .ref aq, .ref ab]))] H := hP
  have hD : va_D A [(mm, .inr (3, [.int (iI 0), .int (iI C), .int (iI R), .int (iI lim), .int (iI np), .ref ac, .ref ar, .int (iI qb), .int (iI qs), .int (iI wd), .int (iI sm), .ref al, .ref aq, .ref ab]))] := hD
  refine lv_aload_n hx hb dX3_steps_5 rfl (lv_at hl 0 rfl) ?_
  refine va_get (D := D) (ci := 3) (v := .int (iI sm)) (C := RX3) (T := TX3) (N := 14) hx hb hts uX3 hown hK.1 hP 0 rfl rfl 10 (by decide) (hts _ q_536) (fun _ h9 => h9) rfl dX3_steps_6 ?_
  exact MM_iret (()) hx hb hr hlk hP hD hS (Nat.le_of_ble_eq_true rfl) (Nat.le_of_ble_eq_true rfl) dX3_steps_9 (by omega)
set_option maxRecDepth 100000 in
set_option maxHeartbeats 4000000 in
theorem c_X3_letters (l : Launch) (D : va_G) (cI cJ : ClassId) (mm ac ar al aq ab : Nat) (th C R lim np qb qs wd sm : Int) (P : Int) (hPb : 0 ≤ P ∧ P < 16807) (hqs : 343 * qs + wd = tauZ P) (hwd : 0 ≤ wd ∧ wd < 343) (sz : Nat) : MMi l yX3_letters (.code yX3_letters cX3_letters 1 (some .int)) 1 0 0 [.ref mm] D cI cJ [(mm, .inr (3, [.int (iI th), .int (iI C), .int (iI R), .int (iI lim), .int (iI np), .ref ac, .ref ar, .int (iI qb), .int (iI qs), .int (iI wd), .int (iI sm), .ref al, .ref aq, .ref ab]))] sz (fun (r : Int) (u : Unit) => r = lenZ (P % 343)) (fun u : Unit => [(mm, .inr (3, [.int (iI 0), .int (iI C), .int (iI R), .int (iI lim), .int (iI np), .ref ac, .ref ar, .int (iI qb), .int (iI qs), .int (iI wd), .int (iI sm), .ref al, .ref aq, .ref ab]))]) := by
  obtain ⟨hP0, hP1⟩ := hPb
  obtain ⟨hw0, hw1⟩ := hwd
  have htz := tauZ_of hP0 hP1
  have hqv : qs = P / 343 % 7 * 7 + P / 343 / 7 := by omega
  have hwv : wd = P % 343 := by omega
  refine MM_of (Qc := fun A => QMi D A (fun (r : Int) (u : Unit) => r = lenZ (P % 343)) (fun u : Unit => [(mm, .inr (3, [.int (iI 0), .int (iI C), .int (iI R), .int (iI lim), .int (iI np), .ref ac, .ref ar, .int (iI qb), .int (iI qs), .int (iI wd), .int (iI sm), .ref al, .ref aq, .ref ab]))])) (by decide) rfl (Nat.le_of_ble_eq_true rfl) (fun p e s m below meth c ls A hx hb hr hts hown hlk hml hin hK hP hD hA hS hl => ?_)
  have hl : lv_has ls 1 [(0, .ref mm)] := hl
  refine lv_aload_n hx hb dX3_letters_0 rfl (lv_at hl 0 rfl) ?_
  refine zv_iconst hx hb dX3_letters_1 ?_
  refine va_put (D := D) (ci := 3) (v := .int (iI 0)) (ty := .int) (C := RX3) (T := TX3) (N := 14) hx hb hts uX3 tyX3 tyX3_ok nmX3 hown hK.1 hP hD hS 0 rfl rfl 0 (by decide) (hts _ q_526) (fun _ h9 => h9) rfl (by decide +kernel) rfl rfl (Nat.le_of_ble_eq_true rfl) dX3_letters_2 (fun H locs hP hD hS => ?_)
  have hP : va_P D vwCl [(mm, .inr (3, [.int (iI 0), .int (iI C), .int (iI R), .int (iI lim), .int (iI np), .ref ac, .ref ar, .int (iI qb), .int (iI qs), .int (iI wd), .int (iI sm), .ref al, .ref aq, .ref ab]))] H := hP
  have hD : va_D A [(mm, .inr (3, [.int (iI 0), .int (iI C), .int (iI R), .int (iI lim), .int (iI np), .ref ac, .ref ar, .int (iI qb), .int (iI qs), .int (iI wd), .int (iI sm), .ref al, .ref aq, .ref ab]))] := hD
  refine lv_aload_n hx hb dX3_letters_5 rfl (lv_at hl 0 rfl) ?_
  refine va_get (D := D) (ci := 3) (v := .int (iI wd)) (C := RX3) (T := TX3) (N := 14) hx hb hts uX3 hown hK.1 hP 0 rfl rfl 9 (by decide) (hts _ q_535) (fun _ h9 => h9) rfl dX3_letters_6 ?_
  refine zc_S (As := [.int (iI wd)]) (rest := []) (ws := [(mm, .inr (3, [.int (iI 0), .int (iI C), .int (iI R), .int (iI lim), .int (iI np), .ref ac, .ref ar, .int (iI qb), .int (iI qs), .int (iI wd), .int (iI sm), .ref al, .ref aq, .ref ab]))]) (n := 1) hx hb (hml.trans hl.1.symm) hts hown hK hP (c_X3_size l D cI cJ wd (by omega) (by omega)) (gd_S q_629 q_630 q_6 q_631) (by decide +kernel) rfl ⟨Nat.le_of_ble_eq_true rfl, Nat.le_of_ble_eq_true rfl⟩ ⟨Nat.le_of_ble_eq_true rfl, Nat.le_of_ble_eq_true rfl⟩ [] rfl rfl (Nat.le_of_ble_eq_true rfl) dX3_letters_9 (fun r_1 hr_1 => ?_)
  subst r_1
  exact MM_iret (()) hx hb hr hlk hP hD hS (Nat.le_of_ble_eq_true rfl) (Nat.le_of_ble_eq_true rfl) dX3_letters_12 (by rw [hwv])
set_option maxRecDepth 100000 in
set_option maxHeartbeats 4000000 in
theorem c_X3_length (l : Launch) (D : va_G) (cI cJ : ClassId) (mm ac ar al aq ab : Nat) (th C R lim np qb qs wd sm : Int) (gl : Nat → Int) (L : Int → Int) (P : Int) (hL : MLen L gl) (hPb : 0 ≤ P ∧ P < 16807) (hqs : 343 * qs + wd = tauZ P) (hwd : 0 ≤ wd ∧ wd < 343) (sz : Nat) : MMi l yX3_length (.code yX3_length cX3_length 1 (some .int)) 1 0 0 [.ref mm] D cI cJ [(mm, .inr (3, [.int (iI th), .int (iI C), .int (iI R), .int (iI lim), .int (iI np), .ref ac, .ref ar, .int (iI qb), .int (iI qs), .int (iI wd), .int (iI sm), .ref al, .ref aq, .ref ab])), (al, .inl (cI, 16807, .inl (aI gl)))] sz (fun (r : Int) (u : Unit) => r = L P) (fun u : Unit => [(mm, .inr (3, [.int (iI 0), .int (iI C), .int (iI R), .int (iI lim), .int (iI np), .ref ac, .ref ar, .int (iI qb), .int (iI qs), .int (iI wd), .int (iI sm), .ref al, .ref aq, .ref ab])), (al, .inl (cI, 16807, .inl (aI gl)))]) := by
  obtain ⟨hP0, hP1⟩ := hPb
  obtain ⟨hw0, hw1⟩ := hwd
  have htz := tauZ_of hP0 hP1
  have hqv : qs = P / 343 % 7 * 7 + P / 343 / 7 := by omega
  have hwv : wd = P % 343 := by omega
  refine MM_of (Qc := fun A => QMi D A (fun (r : Int) (u : Unit) => r = L P) (fun u : Unit => [(mm, .inr (3, [.int (iI 0), .int (iI C), .int (iI R), .int (iI lim), .int (iI np), .ref ac, .ref ar, .int (iI qb), .int (iI qs), .int (iI wd), .int (iI sm), .ref al, .ref aq, .ref ab])), (al, .inl (cI, 16807, .inl (aI gl)))])) (by decide) rfl (Nat.le_of_ble_eq_true rfl) (fun p e s m below meth c ls A hx hb hr hts hown hlk hml hin hK hP hD hA hS hl => ?_)
  have hl : lv_has ls 1 [(0, .ref mm)] := hl
  refine lv_aload_n hx hb dX3_length_0 rfl (lv_at hl 0 rfl) ?_
  refine zv_iconst hx hb dX3_length_1 ?_
  refine va_put (D := D) (ci := 3) (v := .int (iI 0)) (ty := .int) (C := RX3) (T := TX3) (N := 14) hx hb hts uX3 tyX3 tyX3_ok nmX3 hown hK.1 hP hD hS 0 rfl rfl 0 (by decide) (hts _ q_526) (fun _ h9 => h9) rfl (by decide +kernel) rfl rfl (Nat.le_of_ble_eq_true rfl) dX3_length_2 (fun H locs hP hD hS => ?_)
  have hP : va_P D vwCl [(mm, .inr (3, [.int (iI 0), .int (iI C), .int (iI R), .int (iI lim), .int (iI np), .ref ac, .ref ar, .int (iI qb), .int (iI qs), .int (iI wd), .int (iI sm), .ref al, .ref aq, .ref ab])), (al, .inl (cI, 16807, .inl (aI gl)))] H := hP
  have hD : va_D A [(mm, .inr (3, [.int (iI 0), .int (iI C), .int (iI R), .int (iI lim), .int (iI np), .ref ac, .ref ar, .int (iI qb), .int (iI qs), .int (iI wd), .int (iI sm), .ref al, .ref aq, .ref ab])), (al, .inl (cI, 16807, .inl (aI gl)))] := hD
  refine lv_aload_n hx hb dX3_length_5 rfl (lv_at hl 0 rfl) ?_
  refine va_get (D := D) (ci := 3) (v := .ref al) (C := RX3) (T := TX3) (N := 14) hx hb hts uX3 hown hK.1 hP 0 rfl rfl 11 (by decide) (hts _ q_537) (fun _ h9 => h9) rfl dX3_length_6 ?_
  refine lv_aload_n hx hb dX3_length_9 rfl (lv_at hl 0 rfl) ?_
  refine zc_V (As := []) (rest := [.ref al]) (ws := [(mm, .inr (3, [.int (iI 0), .int (iI C), .int (iI R), .int (iI lim), .int (iI np), .ref ac, .ref ar, .int (iI qb), .int (iI qs), .int (iI wd), .int (iI sm), .ref al, .ref aq, .ref ab])), (al, .inl (cI, 16807, .inl (aI gl)))]) (n := 0) hx hb (hml.trans hl.1.symm) hts hown hK hP (c_X3_place l D cI cJ mm ac ar al aq ab 0 C R lim np qb qs wd sm) (gd_V q_589 q_591 q_1023 q_6 q_592) (by decide +kernel) rfl ⟨Nat.le_of_ble_eq_true rfl, Nat.le_of_ble_eq_true rfl⟩ ⟨Nat.le_of_ble_eq_true rfl, Nat.le_of_ble_eq_true rfl⟩ [0] rfl 0 (ci := 3) rfl rfl rfl rfl (Nat.le_of_ble_eq_true rfl) dX3_length_10 (fun r_1 hr_1 => ?_)
  subst r_1
  refine zv_iald hx hb hK.1 hP 1 0 rfl rfl (by omega) (by omega) (by omega) dX3_length_13 ?_
  refine zv_top (y := L P) (by rw [hqs]; exact hL.1 _ hP0 hP1) ?_
  exact MM_iret (()) hx hb hr hlk hP hD hS (Nat.le_of_ble_eq_true rfl) (Nat.le_of_ble_eq_true rfl) dX3_length_14 (rfl)
set_option maxRecDepth 100000 in
set_option maxHeartbeats 4000000 in
theorem c_X3_slack (l : Launch) (D : va_G) (cI cJ : ClassId) (mm ac ar al aq ab : Nat) (th C R lim np qb qs wd sm : Int) (gl : Nat → Int) (L : Int → Int) (P : Int) (hL : MLen L gl) (hPb : 0 ≤ P ∧ P < 16807) (hqs : 343 * qs + wd = tauZ P) (hwd : 0 ≤ wd ∧ wd < 343) (sz : Nat) : MMi l yX3_slack (.code yX3_slack cX3_slack 1 (some .int)) 1 0 0 [.ref mm] D cI cJ [(mm, .inr (3, [.int (iI th), .int (iI C), .int (iI R), .int (iI lim), .int (iI np), .ref ac, .ref ar, .int (iI qb), .int (iI qs), .int (iI wd), .int (iI sm), .ref al, .ref aq, .ref ab])), (al, .inl (cI, 16807, .inl (aI gl)))] sz (fun (r : Int) (u : Unit) => r = lim - L P) (fun u : Unit => [(mm, .inr (3, [.int (iI 0), .int (iI C), .int (iI R), .int (iI lim), .int (iI np), .ref ac, .ref ar, .int (iI qb), .int (iI qs), .int (iI wd), .int (iI sm), .ref al, .ref aq, .ref ab])), (al, .inl (cI, 16807, .inl (aI gl)))]) := by
  obtain ⟨hP0, hP1⟩ := hPb
  obtain ⟨hw0, hw1⟩ := hwd
  have htz := tauZ_of hP0 hP1
  have hqv : qs = P / 343 % 7 * 7 + P / 343 / 7 := by omega
  have hwv : wd = P % 343 := by omega
  refine MM_of (Qc := fun A => QMi D A (fun (r : Int) (u : Unit) => r = lim - L P) (fun u : Unit => [(mm, .inr (3, [.int (iI 0), .int (iI C), .int (iI R), .int (iI lim), .int (iI np), .ref ac, .ref ar, .int (iI qb), .int (iI qs), .int (iI wd), .int (iI sm), .ref al, .ref aq, .ref ab])), (al, .inl (cI, 16807, .inl (aI gl)))])) (by decide) rfl (Nat.le_of_ble_eq_true rfl) (fun p e s m below meth c ls A hx hb hr hts hown hlk hml hin hK hP hD hA hS hl => ?_)
  have hl : lv_has ls 1 [(0, .ref mm)] := hl
  refine lv_aload_n hx hb dX3_slack_0 rfl (lv_at hl 0 rfl) ?_
  refine zv_iconst hx hb dX3_slack_1 ?_
  refine va_put (D := D) (ci := 3) (v := .int (iI 0)) (ty := .int) (C := RX3) (T := TX3) (N := 14) hx hb hts uX3 tyX3 tyX3_ok nmX3 hown hK.1 hP hD hS 0 rfl rfl 0 (by decide) (hts _ q_526) (fun _ h9 => h9) rfl (by decide +kernel) rfl rfl (Nat.le_of_ble_eq_true rfl) dX3_slack_2 (fun H locs hP hD hS => ?_)
  have hP : va_P D vwCl [(mm, .inr (3, [.int (iI 0), .int (iI C), .int (iI R), .int (iI lim), .int (iI np), .ref ac, .ref ar, .int (iI qb), .int (iI qs), .int (iI wd), .int (iI sm), .ref al, .ref aq, .ref ab])), (al, .inl (cI, 16807, .inl (aI gl)))] H := hP
  have hD : va_D A [(mm, .inr (3, [.int (iI 0), .int (iI C), .int (iI R), .int (iI lim), .int (iI np), .ref ac, .ref ar, .int (iI qb), .int (iI qs), .int (iI wd), .int (iI sm), .ref al, .ref aq, .ref ab])), (al, .inl (cI, 16807, .inl (aI gl)))] := hD
  refine lv_aload_n hx hb dX3_slack_5 rfl (lv_at hl 0 rfl) ?_
  refine va_get (D := D) (ci := 3) (v := .int (iI lim)) (C := RX3) (T := TX3) (N := 14) hx hb hts uX3 hown hK.1 hP 0 rfl rfl 3 (by decide) (hts _ q_529) (fun _ h9 => h9) rfl dX3_slack_6 ?_
  refine lv_aload_n hx hb dX3_slack_9 rfl (lv_at hl 0 rfl) ?_
  refine va_get (D := D) (ci := 3) (v := .ref al) (C := RX3) (T := TX3) (N := 14) hx hb hts uX3 hown hK.1 hP 0 rfl rfl 11 (by decide) (hts _ q_537) (fun _ h9 => h9) rfl dX3_slack_10 ?_
  refine lv_aload_n hx hb dX3_slack_13 rfl (lv_at hl 0 rfl) ?_
  refine zc_V (As := []) (rest := [.ref al, .int (iI lim)]) (ws := [(mm, .inr (3, [.int (iI 0), .int (iI C), .int (iI R), .int (iI lim), .int (iI np), .ref ac, .ref ar, .int (iI qb), .int (iI qs), .int (iI wd), .int (iI sm), .ref al, .ref aq, .ref ab])), (al, .inl (cI, 16807, .inl (aI gl)))]) (n := 0) hx hb (hml.trans hl.1.symm) hts hown hK hP (c_X3_place l D cI cJ mm ac ar al aq ab 0 C R lim np qb qs wd sm) (gd_V q_589 q_591 q_1023 q_6 q_592) (by decide +kernel) rfl ⟨Nat.le_of_ble_eq_true rfl, Nat.le_of_ble_eq_true rfl⟩ ⟨Nat.le_of_ble_eq_true rfl, Nat.le_of_ble_eq_true rfl⟩ [0] rfl 0 (ci := 3) rfl rfl rfl rfl (Nat.le_of_ble_eq_true rfl) dX3_slack_14 (fun r_1 hr_1 => ?_)
  subst r_1
  refine zv_iald hx hb hK.1 hP 1 0 rfl rfl (by omega) (by omega) (by omega) dX3_slack_17 ?_
  refine zv_top (y := L P) (by rw [hqs]; exact hL.1 _ hP0 hP1) ?_
  refine zv_isub hx hb dX3_slack_18 ?_
  exact MM_iret (()) hx hb hr hlk hP hD hS (Nat.le_of_ble_eq_true rfl) (Nat.le_of_ble_eq_true rfl) dX3_slack_19 (rfl)
set_option maxRecDepth 100000 in
set_option maxHeartbeats 4000000 in
theorem c_X3_lengthByTrying (l : Launch) (D : va_G) (cI cJ : ClassId) (mm ac ar al aq ab : Nat) (th C R lim np qb qs wd sm : Int) (gl : Nat → Int) (L : Int → Int) (P : Int) (k : Int) (hL : MLen L gl) (hk1 : -2147483648 ≤ k) (hk2 : k < 2147483648) (hPb : 0 ≤ P ∧ P < 16807) (hqs : 343 * qs + wd = tauZ P) (hwd : 0 ≤ wd ∧ wd < 343) (sz : Nat) : MMi l yX3_lengthByTrying (.code yX3_lengthByTrying cX3_lengthByTrying 2 (some .int)) 1 0 0 [.ref mm, .int (iI k)] D cI cJ [(mm, .inr (3, [.int (iI th), .int (iI C), .int (iI R), .int (iI lim), .int (iI np), .ref ac, .ref ar, .int (iI qb), .int (iI qs), .int (iI wd), .int (iI sm), .ref al, .ref aq, .ref ab])), (al, .inl (cI, 16807, .inl (aI gl)))] sz (fun (r : Int) (u : Int) => (u = 1 ∧ r = 0 ∧ ¬ (0 ≤ k ∧ k ≤ 8)) ∨ (u = 0 ∧ (0 ≤ k ∧ k ≤ 8) ∧ ((L P ≤ k ∧ r = L P) ∨ (¬ L P ≤ k ∧ r = -1)))) (fun u : Int => [(mm, .inr (3, [.int (iI u), .int (iI C), .int (iI R), .int (iI lim), .int (iI np), .ref ac, .ref ar, .int (iI qb), .int (iI qs), .int (iI wd), .int (iI sm), .ref al, .ref aq, .ref ab])), (al, .inl (cI, 16807, .inl (aI gl)))]) := by
  obtain ⟨hP0, hP1⟩ := hPb
  obtain ⟨hw0, hw1⟩ := hwd
  have htz := tauZ_of hP0 hP1
  have hqv : qs = P / 343 % 7 * 7 + P / 343 / 7 := by omega
  have hwv : wd = P % 343 := by omega
  have hLb := hL.b P
  refine MM_of (Qc := fun A => QMi D A (fun (r : Int) (u : Int) => (u = 1 ∧ r = 0 ∧ ¬ (0 ≤ k ∧ k ≤ 8)) ∨ (u = 0 ∧ (0 ≤ k ∧ k ≤ 8) ∧ ((L P ≤ k ∧ r = L P) ∨ (¬ L P ≤ k ∧ r = -1)))) (fun u : Int => [(mm, .inr (3, [.int (iI u), .int (iI C), .int (iI R), .int (iI lim), .int (iI np), .ref ac, .ref ar, .int (iI qb), .int (iI qs), .int (iI wd), .int (iI sm), .ref al, .ref aq, .ref ab])), (al, .inl (cI, 16807, .inl (aI gl)))])) (by decide) rfl (Nat.le_of_ble_eq_true rfl) (fun p e s m below meth c ls A hx hb hr hts hown hlk hml hin hK hP hD hA hS hl => ?_)
  have hl : lv_has ls 2 [(0, .ref mm), (1, .int (iI k))] := hl
  refine lv_aload_n hx hb dX3_lengthByTrying_0 rfl (lv_at hl 0 rfl) ?_
  refine lv_iload_n hx hb dX3_lengthByTrying_1 rfl (lv_at hl 1 rfl) ?_
  refine zv_iconst hx hb dX3_lengthByTrying_2 ?_
  refine zv_bipush hx hb dX3_lengthByTrying_3 (by decide) ?_
  refine zc_S (As := [.int (iI k), .int (iI 0), .int (iI 8)]) (rest := [.ref mm]) (ws := [(mm, .inr (3, [.int (iI th), .int (iI C), .int (iI R), .int (iI lim), .int (iI np), .ref ac, .ref ar, .int (iI qb), .int (iI qs), .int (iI wd), .int (iI sm), .ref al, .ref aq, .ref ab])), (al, .inl (cI, 16807, .inl (aI gl)))]) (n := 3) hx hb (hml.trans hl.1.symm) hts hown hK hP (c_X3_in l D cI cJ k 0 8 (⟨by omega, by omega⟩) (⟨by omega, by omega⟩) (⟨by omega, by omega⟩)) (gd_S q_497 q_498 q_6 q_499) (by decide +kernel) rfl ⟨Nat.le_of_ble_eq_true rfl, Nat.le_of_ble_eq_true rfl⟩ ⟨Nat.le_of_ble_eq_true rfl, Nat.le_of_ble_eq_true rfl⟩ [] rfl rfl (Nat.le_of_ble_eq_true rfl) dX3_lengthByTrying_5 (fun r_1 hr_1 => ?_)
  refine zv_if_eq hx hb dX3_lengthByTrying_8 (tgt := 15) (by decide) ⟨by omega, by omega⟩ (fun c_2 => ?_) (fun c_2 => ?_)
  · refine zv_iconst hx hb dX3_lengthByTrying_15 ?_
    refine zm_Vi (As := [.int (iI 1)]) (rest := []) (ws := [(mm, .inr (3, [.int (iI th), .int (iI C), .int (iI R), .int (iI lim), .int (iI np), .ref ac, .ref ar, .int (iI qb), .int (iI qs), .int (iI wd), .int (iI sm), .ref al, .ref aq, .ref ab])), (al, .inl (cI, 16807, .inl (aI gl)))]) (wr := [(al, .inl (cI, 16807, .inl (aI gl)))]) (n := 1) hx hb (hml.trans hl.1.symm) hts hown hK hP hD hS hA (c_X3_holds l D cI cJ mm ac ar al aq ab th C R lim np qb qs wd sm 1 (by omega) (by omega) _) (gd_V q_577 q_579 q_1022 q_6 q_580) (by decide +kernel) rfl ⟨Nat.le_of_ble_eq_true rfl, Nat.le_of_ble_eq_true rfl⟩ ⟨Nat.le_of_ble_eq_true rfl, Nat.le_of_ble_eq_true rfl⟩ [0] [1] rfl rfl (by decide) (by decide) (by decide) 0 (ci := 3) rfl rfl rfl rfl (Nat.le_of_ble_eq_true rfl) dX3_lengthByTrying_16 (fun r_4 u H locs hq_3 hP hD hS => ?_)
    have hP := hP.sub (ws' := [(mm, .inr (3, [.int (iI 1), .int (iI C), .int (iI R), .int (iI lim), .int (iI np), .ref ac, .ref ar, .int (iI qb), .int (iI qs), .int (iI wd), .int (iI sm), .ref al, .ref aq, .ref ab])), (al, .inl (cI, 16807, .inl (aI gl)))]) [1, 0] rfl
    have hD := hD.sub (ws' := [(mm, .inr (3, [.int (iI 1), .int (iI C), .int (iI R), .int (iI lim), .int (iI np), .ref ac, .ref ar, .int (iI qb), .int (iI qs), .int (iI wd), .int (iI sm), .ref al, .ref aq, .ref ab])), (al, .inl (cI, 16807, .inl (aI gl)))]) [1, 0] (by decide) rfl
    try dsimp only at hq_3
    refine zv_if_ne hx hb dX3_lengthByTrying_19 (tgt := 26) (by decide) ⟨by omega, by omega⟩ (fun c_5 => by exfalso; omega) (fun c_5 => ?_)
    refine zv_iconst hx hb dX3_lengthByTrying_22 ?_
    refine lv_goto (tgt := 52) hx hb dX3_lengthByTrying_23 (by decide) ?_
    exact MM_iret (1) hx hb hr hlk hP hD hS (Nat.le_of_ble_eq_true rfl) (Nat.le_of_ble_eq_true rfl) dX3_lengthByTrying_52 (by omega)
  · refine zv_iconst hx hb dX3_lengthByTrying_11 ?_
    refine lv_goto (tgt := 16) hx hb dX3_lengthByTrying_12 (by decide) ?_
    refine zm_Vi (As := [.int (iI 0)]) (rest := []) (ws := [(mm, .inr (3, [.int (iI th), .int (iI C), .int (iI R), .int (iI lim), .int (iI np), .ref ac, .ref ar, .int (iI qb), .int (iI qs), .int (iI wd), .int (iI sm), .ref al, .ref aq, .ref ab])), (al, .inl (cI, 16807, .inl (aI gl)))]) (wr := [(al, .inl (cI, 16807, .inl (aI gl)))]) (n := 1) hx hb (hml.trans hl.1.symm) hts hown hK hP hD hS hA (c_X3_holds l D cI cJ mm ac ar al aq ab th C R lim np qb qs wd sm 0 (by omega) (by omega) _) (gd_V q_577 q_579 q_1022 q_6 q_580) (by decide +kernel) rfl ⟨Nat.le_of_ble_eq_true rfl, Nat.le_of_ble_eq_true rfl⟩ ⟨Nat.le_of_ble_eq_true rfl, Nat.le_of_ble_eq_true rfl⟩ [0] [1] rfl rfl (by decide) (by decide) (by decide) 0 (ci := 3) rfl rfl rfl rfl (Nat.le_of_ble_eq_true rfl) dX3_lengthByTrying_16 (fun r_7 u H locs hq_6 hP hD hS => ?_)
    have hP := hP.sub (ws' := [(mm, .inr (3, [.int (iI 0), .int (iI C), .int (iI R), .int (iI lim), .int (iI np), .ref ac, .ref ar, .int (iI qb), .int (iI qs), .int (iI wd), .int (iI sm), .ref al, .ref aq, .ref ab])), (al, .inl (cI, 16807, .inl (aI gl)))]) [1, 0] rfl
    have hD := hD.sub (ws' := [(mm, .inr (3, [.int (iI 0), .int (iI C), .int (iI R), .int (iI lim), .int (iI np), .ref ac, .ref ar, .int (iI qb), .int (iI qs), .int (iI wd), .int (iI sm), .ref al, .ref aq, .ref ab])), (al, .inl (cI, 16807, .inl (aI gl)))]) [1, 0] (by decide) rfl
    try dsimp only at hq_6
    refine zv_if_ne hx hb dX3_lengthByTrying_19 (tgt := 26) (by decide) ⟨by omega, by omega⟩ (fun c_8 => ?_) (fun c_8 => by exfalso; omega)
    refine lv_aload_n hx hb dX3_lengthByTrying_26 rfl (lv_at hl 0 rfl) ?_
    refine va_get (D := D) (ci := 3) (v := .ref al) (C := RX3) (T := TX3) (N := 14) hx hb hts uX3 hown hK.1 hP 0 rfl rfl 11 (by decide) (hts _ q_537) (fun _ h9 => h9) rfl dX3_lengthByTrying_27 ?_
    refine lv_aload_n hx hb dX3_lengthByTrying_30 rfl (lv_at hl 0 rfl) ?_
    refine zc_V (As := []) (rest := [.ref al]) (ws := [(mm, .inr (3, [.int (iI 0), .int (iI C), .int (iI R), .int (iI lim), .int (iI np), .ref ac, .ref ar, .int (iI qb), .int (iI qs), .int (iI wd), .int (iI sm), .ref al, .ref aq, .ref ab])), (al, .inl (cI, 16807, .inl (aI gl)))]) (n := 0) hx hb (hml.trans hl.1.symm) hts hown hK hP (c_X3_place l D cI cJ mm ac ar al aq ab 0 C R lim np qb qs wd sm) (gd_V q_589 q_591 q_1023 q_6 q_592) (by decide +kernel) rfl ⟨Nat.le_of_ble_eq_true rfl, Nat.le_of_ble_eq_true rfl⟩ ⟨Nat.le_of_ble_eq_true rfl, Nat.le_of_ble_eq_true rfl⟩ [0] rfl 0 (ci := 3) rfl rfl rfl rfl (Nat.le_of_ble_eq_true rfl) dX3_lengthByTrying_31 (fun r_9 hr_9 => ?_)
    subst r_9
    refine zv_iald hx hb hK.1 hP 1 0 rfl rfl (by omega) (by omega) (by omega) dX3_lengthByTrying_34 ?_
    refine zv_top (y := L P) (by rw [hqs]; exact hL.1 _ hP0 hP1) ?_
    refine lv_iload_n hx hb dX3_lengthByTrying_35 rfl (lv_at hl 1 rfl) ?_
    refine zv_icmp_gt hx hb dX3_lengthByTrying_36 (tgt := 51) (by decide) ⟨by omega, by omega⟩ ⟨by omega, by omega⟩ (fun c_10 => ?_) (fun c_10 => ?_)
    · refine zv_iconst hx hb dX3_lengthByTrying_51 ?_
      exact MM_iret (0) hx hb hr hlk hP hD hS (Nat.le_of_ble_eq_true rfl) (Nat.le_of_ble_eq_true rfl) dX3_lengthByTrying_52 (by omega)
    · refine lv_aload_n hx hb dX3_lengthByTrying_39 rfl (lv_at hl 0 rfl) ?_
      refine va_get (D := D) (ci := 3) (v := .ref al) (C := RX3) (T := TX3) (N := 14) hx hb hts uX3 hown hK.1 hP 0 rfl rfl 11 (by decide) (hts _ q_537) (fun _ h9 => h9) rfl dX3_lengthByTrying_40 ?_
      refine lv_aload_n hx hb dX3_lengthByTrying_43 rfl (lv_at hl 0 rfl) ?_
      refine zc_V (As := []) (rest := [.ref al]) (ws := [(mm, .inr (3, [.int (iI 0), .int (iI C), .int (iI R), .int (iI lim), .int (iI np), .ref ac, .ref ar, .int (iI qb), .int (iI qs), .int (iI wd), .int (iI sm), .ref al, .ref aq, .ref ab])), (al, .inl (cI, 16807, .inl (aI gl)))]) (n := 0) hx hb (hml.trans hl.1.symm) hts hown hK hP (c_X3_place l D cI cJ mm ac ar al aq ab 0 C R lim np qb qs wd sm) (gd_V q_589 q_591 q_1023 q_6 q_592) (by decide +kernel) rfl ⟨Nat.le_of_ble_eq_true rfl, Nat.le_of_ble_eq_true rfl⟩ ⟨Nat.le_of_ble_eq_true rfl, Nat.le_of_ble_eq_true rfl⟩ [0] rfl 0 (ci := 3) rfl rfl rfl rfl (Nat.le_of_ble_eq_true rfl) dX3_lengthByTrying_44 (fun r_11 hr_11 => ?_)
      subst r_11
      refine zv_iald hx hb hK.1 hP 1 0 rfl rfl (by omega) (by omega) (by omega) dX3_lengthByTrying_47 ?_
      refine zv_top (y := L P) (by rw [hqs]; exact hL.1 _ hP0 hP1) ?_
      refine lv_goto (tgt := 52) hx hb dX3_lengthByTrying_48 (by decide) ?_
      exact MM_iret (0) hx hb hr hlk hP hD hS (Nat.le_of_ble_eq_true rfl) (Nat.le_of_ble_eq_true rfl) dX3_lengthByTrying_52 (by omega)
set_option maxRecDepth 100000 in
set_option maxHeartbeats 4000000 in
theorem c_X3_letterAt (l : Launch) (D : va_G) (cI cJ : ClassId) (mm ac ar al aq ab : Nat) (th C R lim np qb qs wd sm : Int) (P : Int) (k : Int) (hk1 : -2147483648 ≤ k) (hk2 : k < 2147483648) (hPb : 0 ≤ P ∧ P < 16807) (hqs : 343 * qs + wd = tauZ P) (hwd : 0 ≤ wd ∧ wd < 343) (sz : Nat) : MMi l yX3_letterAt (.code yX3_letterAt cX3_letterAt 4 (some .int)) 1 0 0 [.ref mm, .int (iI k)] D cI cJ [(mm, .inr (3, [.int (iI th), .int (iI C), .int (iI R), .int (iI lim), .int (iI np), .ref ac, .ref ar, .int (iI qb), .int (iI qs), .int (iI wd), .int (iI sm), .ref al, .ref aq, .ref ab]))] sz (fun (r : Int) (u : Int) => (u = 1 ∧ ¬ (0 ≤ k ∧ k < lenZ (P % 343))) ∨ (u = 0 ∧ (0 ≤ k ∧ k < lenZ (P % 343)) ∧ r = dvZ (P % 343) (lenZ (P % 343) - 1 - k).toNat % 7 - 1)) (fun u : Int => [(mm, .inr (3, [.int (iI u), .int (iI C), .int (iI R), .int (iI lim), .int (iI np), .ref ac, .ref ar, .int (iI qb), .int (iI qs), .int (iI wd), .int (iI sm), .ref al, .ref aq, .ref ab]))]) := by
  obtain ⟨hP0, hP1⟩ := hPb
  obtain ⟨hw0, hw1⟩ := hwd
  have htz := tauZ_of hP0 hP1
  have hqv : qs = P / 343 % 7 * 7 + P / 343 / 7 := by omega
  have hwv : wd = P % 343 := by omega
  have hlz := lenZ_b wd
  refine MM_of (Qc := fun A => QMi D A (fun (r : Int) (u : Int) => (u = 1 ∧ ¬ (0 ≤ k ∧ k < lenZ (P % 343))) ∨ (u = 0 ∧ (0 ≤ k ∧ k < lenZ (P % 343)) ∧ r = dvZ (P % 343) (lenZ (P % 343) - 1 - k).toNat % 7 - 1)) (fun u : Int => [(mm, .inr (3, [.int (iI u), .int (iI C), .int (iI R), .int (iI lim), .int (iI np), .ref ac, .ref ar, .int (iI qb), .int (iI qs), .int (iI wd), .int (iI sm), .ref al, .ref aq, .ref ab]))])) (by decide) rfl (Nat.le_of_ble_eq_true rfl) (fun p e s m below meth c ls A hx hb hr hts hown hlk hml hin hK hP hD hA hS hl => ?_)
  have hl : lv_has ls 4 [(0, .ref mm), (1, .int (iI k))] := hl
  refine lv_aload_n hx hb dX3_letterAt_0 rfl (lv_at hl 0 rfl) ?_
  refine lv_iload_n hx hb dX3_letterAt_1 rfl (lv_at hl 1 rfl) ?_
  refine zv_iconst hx hb dX3_letterAt_2 ?_
  refine lv_aload_n hx hb dX3_letterAt_3 rfl (lv_at hl 0 rfl) ?_
  refine va_get (D := D) (ci := 3) (v := .int (iI wd)) (C := RX3) (T := TX3) (N := 14) hx hb hts uX3 hown hK.1 hP 0 rfl rfl 9 (by decide) (hts _ q_535) (fun _ h9 => h9) rfl dX3_letterAt_4 ?_
  refine zc_S (As := [.int (iI wd)]) (rest := [.int (iI 0), .int (iI k), .ref mm]) (ws := [(mm, .inr (3, [.int (iI th), .int (iI C), .int (iI R), .int (iI lim), .int (iI np), .ref ac, .ref ar, .int (iI qb), .int (iI qs), .int (iI wd), .int (iI sm), .ref al, .ref aq, .ref ab]))]) (n := 1) hx hb (hml.trans hl.1.symm) hts hown hK hP (c_X3_size l D cI cJ wd (by omega) (by omega)) (gd_S q_629 q_630 q_6 q_631) (by decide +kernel) rfl ⟨Nat.le_of_ble_eq_true rfl, Nat.le_of_ble_eq_true rfl⟩ ⟨Nat.le_of_ble_eq_true rfl, Nat.le_of_ble_eq_true rfl⟩ [] rfl rfl (Nat.le_of_ble_eq_true rfl) dX3_letterAt_7 (fun r_1 hr_1 => ?_)
  subst r_1
  refine zv_iconst hx hb dX3_letterAt_10 ?_
  refine zv_isub hx hb dX3_letterAt_11 ?_
  refine zc_S (As := [.int (iI k), .int (iI 0), .int (iI ((lenZ wd) - 1))]) (rest := [.ref mm]) (ws := [(mm, .inr (3, [.int (iI th), .int (iI C), .int (iI R), .int (iI lim), .int (iI np), .ref ac, .ref ar, .int (iI qb), .int (iI qs), .int (iI wd), .int (iI sm), .ref al, .ref aq, .ref ab]))]) (n := 3) hx hb (hml.trans hl.1.symm) hts hown hK hP (c_X3_in l D cI cJ k 0 ((lenZ wd) - 1) (⟨by omega, by omega⟩) (⟨by omega, by omega⟩) (⟨by omega, by omega⟩)) (gd_S q_497 q_498 q_6 q_499) (by decide +kernel) rfl ⟨Nat.le_of_ble_eq_true rfl, Nat.le_of_ble_eq_true rfl⟩ ⟨Nat.le_of_ble_eq_true rfl, Nat.le_of_ble_eq_true rfl⟩ [] rfl rfl (Nat.le_of_ble_eq_true rfl) dX3_letterAt_12 (fun r_2 hr_2 => ?_)
  refine zv_if_eq hx hb dX3_letterAt_15 (tgt := 22) (by decide) ⟨by omega, by omega⟩ (fun c_3 => ?_) (fun c_3 => ?_)
  · refine zv_iconst hx hb dX3_letterAt_22 ?_
    refine zm_Vi (As := [.int (iI 1)]) (rest := []) (ws := [(mm, .inr (3, [.int (iI th), .int (iI C), .int (iI R), .int (iI lim), .int (iI np), .ref ac, .ref ar, .int (iI qb), .int (iI qs), .int (iI wd), .int (iI sm), .ref al, .ref aq, .ref ab]))]) (wr := []) (n := 1) hx hb (hml.trans hl.1.symm) hts hown hK hP hD hS hA (c_X3_holds l D cI cJ mm ac ar al aq ab th C R lim np qb qs wd sm 1 (by omega) (by omega) _) (gd_V q_577 q_579 q_1022 q_6 q_580) (by decide +kernel) rfl ⟨Nat.le_of_ble_eq_true rfl, Nat.le_of_ble_eq_true rfl⟩ ⟨Nat.le_of_ble_eq_true rfl, Nat.le_of_ble_eq_true rfl⟩ [0] [] rfl rfl (by decide) (by decide) (by decide) 0 (ci := 3) rfl rfl rfl rfl (Nat.le_of_ble_eq_true rfl) dX3_letterAt_23 (fun r_5 u H locs hq_4 hP hD hS => ?_)
    have hP := hP.sub (ws' := [(mm, .inr (3, [.int (iI 1), .int (iI C), .int (iI R), .int (iI lim), .int (iI np), .ref ac, .ref ar, .int (iI qb), .int (iI qs), .int (iI wd), .int (iI sm), .ref al, .ref aq, .ref ab]))]) [0] rfl
    have hD := hD.sub (ws' := [(mm, .inr (3, [.int (iI 1), .int (iI C), .int (iI R), .int (iI lim), .int (iI np), .ref ac, .ref ar, .int (iI qb), .int (iI qs), .int (iI wd), .int (iI sm), .ref al, .ref aq, .ref ab]))]) [0] (by decide) rfl
    try dsimp only at hq_4
    refine zv_if_ne hx hb dX3_letterAt_26 (tgt := 31) (by decide) ⟨by omega, by omega⟩ (fun c_6 => by exfalso; omega) (fun c_6 => ?_)
    refine zv_iconst hx hb dX3_letterAt_29 ?_
    exact MM_iret (1) hx hb hr hlk hP hD hS (Nat.le_of_ble_eq_true rfl) (Nat.le_of_ble_eq_true rfl) dX3_letterAt_30 (by rw [← hwv]; omega)
  · refine zv_iconst hx hb dX3_letterAt_18 ?_
    refine lv_goto (tgt := 23) hx hb dX3_letterAt_19 (by decide) ?_
    refine zm_Vi (As := [.int (iI 0)]) (rest := []) (ws := [(mm, .inr (3, [.int (iI th), .int (iI C), .int (iI R), .int (iI lim), .int (iI np), .ref ac, .ref ar, .int (iI qb), .int (iI qs), .int (iI wd), .int (iI sm), .ref al, .ref aq, .ref ab]))]) (wr := []) (n := 1) hx hb (hml.trans hl.1.symm) hts hown hK hP hD hS hA (c_X3_holds l D cI cJ mm ac ar al aq ab th C R lim np qb qs wd sm 0 (by omega) (by omega) _) (gd_V q_577 q_579 q_1022 q_6 q_580) (by decide +kernel) rfl ⟨Nat.le_of_ble_eq_true rfl, Nat.le_of_ble_eq_true rfl⟩ ⟨Nat.le_of_ble_eq_true rfl, Nat.le_of_ble_eq_true rfl⟩ [0] [] rfl rfl (by decide) (by decide) (by decide) 0 (ci := 3) rfl rfl rfl rfl (Nat.le_of_ble_eq_true rfl) dX3_letterAt_23 (fun r_8 u H locs hq_7 hP hD hS => ?_)
    have hP := hP.sub (ws' := [(mm, .inr (3, [.int (iI 0), .int (iI C), .int (iI R), .int (iI lim), .int (iI np), .ref ac, .ref ar, .int (iI qb), .int (iI qs), .int (iI wd), .int (iI sm), .ref al, .ref aq, .ref ab]))]) [0] rfl
    have hD := hD.sub (ws' := [(mm, .inr (3, [.int (iI 0), .int (iI C), .int (iI R), .int (iI lim), .int (iI np), .ref ac, .ref ar, .int (iI qb), .int (iI qs), .int (iI wd), .int (iI sm), .ref al, .ref aq, .ref ab]))]) [0] (by decide) rfl
    try dsimp only at hq_7
    refine zv_if_ne hx hb dX3_letterAt_26 (tgt := 31) (by decide) ⟨by omega, by omega⟩ (fun c_9 => ?_) (fun c_9 => by exfalso; omega)
    refine lv_aload_n hx hb dX3_letterAt_31 rfl (lv_at hl 0 rfl) ?_
    refine va_get (D := D) (ci := 3) (v := .int (iI wd)) (C := RX3) (T := TX3) (N := 14) hx hb hts uX3 hown hK.1 hP 0 rfl rfl 9 (by decide) (hts _ q_535) (fun _ h9 => h9) rfl dX3_letterAt_32 ?_
    refine lv_istore_n (lv' := [(2, .int (iI wd)), (0, .ref mm), (1, .int (iI k))]) hx hb dX3_letterAt_35 rfl hl (by decide) rfl (fun ls hl => ?_)
    refine lv_aload_n hx hb dX3_letterAt_36 rfl (lv_at hl 1 rfl) ?_
    refine va_get (D := D) (ci := 3) (v := .int (iI wd)) (C := RX3) (T := TX3) (N := 14) hx hb hts uX3 hown hK.1 hP 0 rfl rfl 9 (by decide) (hts _ q_535) (fun _ h9 => h9) rfl dX3_letterAt_37 ?_
    refine zc_S (As := [.int (iI wd)]) (rest := []) (ws := [(mm, .inr (3, [.int (iI 0), .int (iI C), .int (iI R), .int (iI lim), .int (iI np), .ref ac, .ref ar, .int (iI qb), .int (iI qs), .int (iI wd), .int (iI sm), .ref al, .ref aq, .ref ab]))]) (n := 1) hx hb (hml.trans hl.1.symm) hts hown hK hP (c_X3_size l D cI cJ wd (by omega) (by omega)) (gd_S q_629 q_630 q_6 q_631) (by decide +kernel) rfl ⟨Nat.le_of_ble_eq_true rfl, Nat.le_of_ble_eq_true rfl⟩ ⟨Nat.le_of_ble_eq_true rfl, Nat.le_of_ble_eq_true rfl⟩ [] rfl rfl (Nat.le_of_ble_eq_true rfl) dX3_letterAt_40 (fun r_10 hr_10 => ?_)
    subst r_10
    refine zv_iconst hx hb dX3_letterAt_43 ?_
    refine zv_isub hx hb dX3_letterAt_44 ?_
    refine lv_istore_n (lv' := [(3, .int (iI ((lenZ wd) - 1))), (2, .int (iI wd)), (0, .ref mm), (1, .int (iI k))]) hx hb dX3_letterAt_45 rfl hl (by decide) rfl (fun ls hl => ?_)
    have loop46 : ∀ (nn : Nat) (x v : Int), (k ≤ v) → (v ≤ lenZ wd - 1) → (x = dvZ wd (lenZ wd - 1 - v).toNat) → (v - k + 1 < (nn : Int)) → ∀ (H : Heap) (locs : List Loc), va_P D vwCl [(mm, .inr (3, [.int (iI 0), .int (iI C), .int (iI R), .int (iI lim), .int (iI np), .ref ac, .ref ar, .int (iI qb), .int (iI qs), .int (iI wd), .int (iI sm), .ref al, .ref aq, .ref ab]))] H → va_D A [(mm, .inr (3, [.int (iI 0), .int (iI C), .int (iI R), .int (iI lim), .int (iI np), .ref ac, .ref ar, .int (iI qb), .int (iI qs), .int (iI wd), .int (iI sm), .ref al, .ref aq, .ref ab]))] → va_S A s.heap H locs → ∀ ls : Array Slot, lv_has ls 4 [(0, .ref mm), (1, .int (iI k)), (2, .int (iI x)), (3, .int (iI v))] → W p l e (rmM 1 0 0) s m [.ref mm, .int (iI k)].toArray below meth c H locs 0 0 (MQ below (QMi D A (fun (r : Int) (u : Int) => (u = 1 ∧ ¬ (0 ≤ k ∧ k < lenZ (P % 343))) ∨ (u = 0 ∧ (0 ≤ k ∧ k < lenZ (P % 343)) ∧ r = dvZ (P % 343) (lenZ (P % 343) - 1 - k).toNat % 7 - 1)) (fun u : Int => [(mm, .inr (3, [.int (iI u), .int (iI C), .int (iI R), .int (iI lim), .int (iI np), .ref ac, .ref ar, .int (iI qb), .int (iI qs), .int (iI wd), .int (iI sm), .ref al, .ref aq, .ref ab]))])) [.ref mm, .int (iI k)].toArray s 0 0 A) (F0 m 46 ls []) := by
      intro nn
      induction nn with
      | zero => intro x v hv0 hv1 hxe hms; exfalso; omega
      | succ nn ih46 =>
        intro x v hv0 hv1 hxe hms H locs hP hD hS ls hl
        have hxb := dvZ_b hw0 hw1 (lenZ wd - 1 - v).toNat
        refine lv_iload_n hx hb dX3_letterAt_46 rfl (lv_at hl 3 rfl) ?_
        refine lv_iload_n hx hb dX3_letterAt_47 rfl (lv_at hl 1 rfl) ?_
        refine zv_icmp_le hx hb dX3_letterAt_48 (tgt := 62) (by decide) ⟨by omega, by omega⟩ ⟨by omega, by omega⟩ (fun c_11 => ?_) (fun c_11 => ?_)
        · refine lv_iload_n hx hb dX3_letterAt_62 rfl (lv_at hl 2 rfl) ?_
          refine zv_bipush hx hb dX3_letterAt_63 (by decide) ?_
          refine zv_irem hx hb dX3_letterAt_65 (by omega) (by omega) (by omega) (by omega) ?_
          refine zv_iconst hx hb dX3_letterAt_66 ?_
          refine zv_isub hx hb dX3_letterAt_67 ?_
          exact MM_iret (0) hx hb hr hlk hP hD hS (Nat.le_of_ble_eq_true rfl) (Nat.le_of_ble_eq_true rfl) dX3_letterAt_68 (by rw [← hwv]; exact Or.inr ⟨rfl, by omega, by rw [hxe, show v = k by omega]⟩)
        · refine lv_iload_n hx hb dX3_letterAt_51 rfl (lv_at hl 2 rfl) ?_
          refine zv_bipush hx hb dX3_letterAt_52 (by decide) ?_
          refine zv_idiv hx hb dX3_letterAt_54 (by omega) (by omega) (by omega) (by omega) ?_
          refine lv_istore_n (lv' := [(2, .int (iI (x / 7))), (0, .ref mm), (1, .int (iI k)), (3, .int (iI v))]) hx hb dX3_letterAt_55 rfl hl (by decide) rfl (fun ls hl => ?_)
          refine zv_iinc (k := 3) (lv' := [(3, .int (iI (v + (-1)))), (2, .int (iI (x / 7))), (0, .ref mm), (1, .int (iI k))]) hx hb dX3_letterAt_56 hl rfl (by decide) rfl (fun ls hl => ?_)
          refine lv_goto (tgt := 46) hx hb dX3_letterAt_59 (by decide) ?_
          exact ih46 (x / 7) (v + (-1)) (by omega) (by omega) (by rw [hxe, show (lenZ wd - 1 - (v + -1)).toNat = (lenZ wd - 1 - v).toNat + 1 by omega]; rfl) (by omega) _ _ hP hD hS ls (lv_sub hl [2, 3, 1, 0] rfl)
    exact loop46 5 wd ((lenZ wd) - 1) (by omega) (by omega) (by rw [show (lenZ wd - 1 - (lenZ wd - 1)).toNat = 0 by omega]; rfl) (by omega) _ _ hP hD hS ls (lv_sub hl [2, 3, 1, 0] rfl)
set_option maxRecDepth 100000 in
set_option maxHeartbeats 4000000 in
theorem c_X3_cableAt (l : Launch) (D : va_G) (cI cJ : ClassId) (mm ac ar al aq ab : Nat) (th C R lim np qb qs wd sm : Int) (gc gr gl : Nat → Int) (N L : Int → Int) (P : Int) (k : Int) (hM : MdOK C R np N gc gr) (hL : MLen L gl) (hlm : 1 ≤ lim ∧ lim ≤ 60) (hcb : CbOK C R N L P) (hk1 : -2147483648 ≤ k) (hk2 : k < 2147483648) (hPb : 0 ≤ P ∧ P < 16807) (hqs : 343 * qs + wd = tauZ P) (hwd : 0 ≤ wd ∧ wd < 343) (sz : Nat) : MMi l yX3_cableAt (.code yX3_cableAt cX3_cableAt 4 (some .int)) 5 0 0 [.ref mm, .int (iI k)] D cI cJ [(mm, .inr (3, [.int (iI th), .int (iI C), .int (iI R), .int (iI lim), .int (iI np), .ref ac, .ref ar, .int (iI qb), .int (iI qs), .int (iI wd), .int (iI sm), .ref al, .ref aq, .ref ab])), (ac, .inl (cI, 3, .inl (aI gc))), (ar, .inl (cI, 3, .inl (aI gr))), (al, .inl (cI, 16807, .inl (aI gl)))] sz (fun (r : Int) (u : Int) => (u = 1 ∧ ¬ (0 ≤ k ∧ k ≤ L P)) ∨ (u = 0 ∧ (0 ≤ k ∧ k ≤ L P) ∧ r = 10 * (alZ C R N L P k.toNat / 343 / 7) + alZ C R N L P k.toNat / 343 % 7)) (fun u : Int => [(mm, .inr (3, [.int (iI u), .int (iI C), .int (iI R), .int (iI lim), .int (iI np), .ref ac, .ref ar, .int (iI qb), .int (iI qs), .int (iI wd), .int (iI sm), .ref al, .ref aq, .ref ab])), (ac, .inl (cI, 3, .inl (aI gc))), (ar, .inl (cI, 3, .inl (aI gr))), (al, .inl (cI, 16807, .inl (aI gl)))]) := by
  obtain ⟨hP0, hP1⟩ := hPb
  obtain ⟨hw0, hw1⟩ := hwd
  have htz := tauZ_of hP0 hP1
  have hqv : qs = P / 343 % 7 * 7 + P / 343 / 7 := by omega
  have hwv : wd = P % 343 := by omega
  obtain ⟨hC1, hC2, hR1, hR2, hp1, hp2, -, -⟩ := id hM
  have hLb := hL.b P
  refine MM_of (Qc := fun A => QMi D A (fun (r : Int) (u : Int) => (u = 1 ∧ ¬ (0 ≤ k ∧ k ≤ L P)) ∨ (u = 0 ∧ (0 ≤ k ∧ k ≤ L P) ∧ r = 10 * (alZ C R N L P k.toNat / 343 / 7) + alZ C R N L P k.toNat / 343 % 7)) (fun u : Int => [(mm, .inr (3, [.int (iI u), .int (iI C), .int (iI R), .int (iI lim), .int (iI np), .ref ac, .ref ar, .int (iI qb), .int (iI qs), .int (iI wd), .int (iI sm), .ref al, .ref aq, .ref ab])), (ac, .inl (cI, 3, .inl (aI gc))), (ar, .inl (cI, 3, .inl (aI gr))), (al, .inl (cI, 16807, .inl (aI gl)))])) (by decide) rfl (Nat.le_of_ble_eq_true rfl) (fun p e s m below meth c ls A hx hb hr hts hown hlk hml hin hK hP hD hA hS hl => ?_)
  have hl : lv_has ls 4 [(0, .ref mm), (1, .int (iI k))] := hl
  refine lv_aload_n hx hb dX3_cableAt_0 rfl (lv_at hl 0 rfl) ?_
  refine lv_iload_n hx hb dX3_cableAt_1 rfl (lv_at hl 1 rfl) ?_
  refine zv_iconst hx hb dX3_cableAt_2 ?_
  refine lv_aload_n hx hb dX3_cableAt_3 rfl (lv_at hl 0 rfl) ?_
  refine va_get (D := D) (ci := 3) (v := .ref al) (C := RX3) (T := TX3) (N := 14) hx hb hts uX3 hown hK.1 hP 0 rfl rfl 11 (by decide) (hts _ q_537) (fun _ h9 => h9) rfl dX3_cableAt_4 ?_
  refine lv_aload_n hx hb dX3_cableAt_7 rfl (lv_at hl 0 rfl) ?_
  refine zc_V (As := []) (rest := [.ref al, .int (iI 0), .int (iI k), .ref mm]) (ws := [(mm, .inr (3, [.int (iI th), .int (iI C), .int (iI R), .int (iI lim), .int (iI np), .ref ac, .ref ar, .int (iI qb), .int (iI qs), .int (iI wd), .int (iI sm), .ref al, .ref aq, .ref ab])), (ac, .inl (cI, 3, .inl (aI gc))), (ar, .inl (cI, 3, .inl (aI gr))), (al, .inl (cI, 16807, .inl (aI gl)))]) (n := 0) hx hb (hml.trans hl.1.symm) hts hown hK hP (c_X3_place l D cI cJ mm ac ar al aq ab th C R lim np qb qs wd sm) (gd_V q_589 q_591 q_1023 q_6 q_592) (by decide +kernel) rfl ⟨Nat.le_of_ble_eq_true rfl, Nat.le_of_ble_eq_true rfl⟩ ⟨Nat.le_of_ble_eq_true rfl, Nat.le_of_ble_eq_true rfl⟩ [0] rfl 0 (ci := 3) rfl rfl rfl rfl (Nat.le_of_ble_eq_true rfl) dX3_cableAt_8 (fun r_1 hr_1 => ?_)
  subst r_1
  refine zv_iald hx hb hK.1 hP 3 0 rfl rfl (by omega) (by omega) (by omega) dX3_cableAt_11 ?_
  refine zv_top (y := L P) (by rw [hqs]; exact hL.1 _ hP0 hP1) ?_
  refine zc_S (As := [.int (iI k), .int (iI 0), .int (iI (L P))]) (rest := [.ref mm]) (ws := [(mm, .inr (3, [.int (iI th), .int (iI C), .int (iI R), .int (iI lim), .int (iI np), .ref ac, .ref ar, .int (iI qb), .int (iI qs), .int (iI wd), .int (iI sm), .ref al, .ref aq, .ref ab])), (ac, .inl (cI, 3, .inl (aI gc))), (ar, .inl (cI, 3, .inl (aI gr))), (al, .inl (cI, 16807, .inl (aI gl)))]) (n := 3) hx hb (hml.trans hl.1.symm) hts hown hK hP (c_X3_in l D cI cJ k 0 (L P) (⟨by omega, by omega⟩) (⟨by omega, by omega⟩) (⟨by omega, by omega⟩)) (gd_S q_497 q_498 q_6 q_499) (by decide +kernel) rfl ⟨Nat.le_of_ble_eq_true rfl, Nat.le_of_ble_eq_true rfl⟩ ⟨Nat.le_of_ble_eq_true rfl, Nat.le_of_ble_eq_true rfl⟩ [] rfl rfl (Nat.le_of_ble_eq_true rfl) dX3_cableAt_12 (fun r_2 hr_2 => ?_)
  refine zv_if_eq hx hb dX3_cableAt_15 (tgt := 22) (by decide) ⟨by omega, by omega⟩ (fun c_3 => ?_) (fun c_3 => ?_)
  · refine zv_iconst hx hb dX3_cableAt_22 ?_
    refine zm_Vi (As := [.int (iI 1)]) (rest := []) (ws := [(mm, .inr (3, [.int (iI th), .int (iI C), .int (iI R), .int (iI lim), .int (iI np), .ref ac, .ref ar, .int (iI qb), .int (iI qs), .int (iI wd), .int (iI sm), .ref al, .ref aq, .ref ab])), (ac, .inl (cI, 3, .inl (aI gc))), (ar, .inl (cI, 3, .inl (aI gr))), (al, .inl (cI, 16807, .inl (aI gl)))]) (wr := [(ac, .inl (cI, 3, .inl (aI gc))), (ar, .inl (cI, 3, .inl (aI gr))), (al, .inl (cI, 16807, .inl (aI gl)))]) (n := 1) hx hb (hml.trans hl.1.symm) hts hown hK hP hD hS hA (c_X3_holds l D cI cJ mm ac ar al aq ab th C R lim np qb qs wd sm 1 (by omega) (by omega) _) (gd_V q_577 q_579 q_1022 q_6 q_580) (by decide +kernel) rfl ⟨Nat.le_of_ble_eq_true rfl, Nat.le_of_ble_eq_true rfl⟩ ⟨Nat.le_of_ble_eq_true rfl, Nat.le_of_ble_eq_true rfl⟩ [0] [1, 2, 3] rfl rfl (by decide) (by decide) (by decide) 0 (ci := 3) rfl rfl rfl rfl (Nat.le_of_ble_eq_true rfl) dX3_cableAt_23 (fun r_5 u H locs hq_4 hP hD hS => ?_)
    have hP := hP.sub (ws' := [(mm, .inr (3, [.int (iI 1), .int (iI C), .int (iI R), .int (iI lim), .int (iI np), .ref ac, .ref ar, .int (iI qb), .int (iI qs), .int (iI wd), .int (iI sm), .ref al, .ref aq, .ref ab])), (ac, .inl (cI, 3, .inl (aI gc))), (ar, .inl (cI, 3, .inl (aI gr))), (al, .inl (cI, 16807, .inl (aI gl)))]) [3, 0, 1, 2] rfl
    have hD := hD.sub (ws' := [(mm, .inr (3, [.int (iI 1), .int (iI C), .int (iI R), .int (iI lim), .int (iI np), .ref ac, .ref ar, .int (iI qb), .int (iI qs), .int (iI wd), .int (iI sm), .ref al, .ref aq, .ref ab])), (ac, .inl (cI, 3, .inl (aI gc))), (ar, .inl (cI, 3, .inl (aI gr))), (al, .inl (cI, 16807, .inl (aI gl)))]) [3, 0, 1, 2] (by decide) rfl
    try dsimp only at hq_4
    refine zv_if_ne hx hb dX3_cableAt_26 (tgt := 31) (by decide) ⟨by omega, by omega⟩ (fun c_6 => by exfalso; omega) (fun c_6 => ?_)
    refine zv_iconst hx hb dX3_cableAt_29 ?_
    exact MM_iret (1) hx hb hr hlk hP hD hS (Nat.le_of_ble_eq_true rfl) (Nat.le_of_ble_eq_true rfl) dX3_cableAt_30 (by omega)
  · refine zv_iconst hx hb dX3_cableAt_18 ?_
    refine lv_goto (tgt := 23) hx hb dX3_cableAt_19 (by decide) ?_
    refine zm_Vi (As := [.int (iI 0)]) (rest := []) (ws := [(mm, .inr (3, [.int (iI th), .int (iI C), .int (iI R), .int (iI lim), .int (iI np), .ref ac, .ref ar, .int (iI qb), .int (iI qs), .int (iI wd), .int (iI sm), .ref al, .ref aq, .ref ab])), (ac, .inl (cI, 3, .inl (aI gc))), (ar, .inl (cI, 3, .inl (aI gr))), (al, .inl (cI, 16807, .inl (aI gl)))]) (wr := [(ac, .inl (cI, 3, .inl (aI gc))), (ar, .inl (cI, 3, .inl (aI gr))), (al, .inl (cI, 16807, .inl (aI gl)))]) (n := 1) hx hb (hml.trans hl.1.symm) hts hown hK hP hD hS hA (c_X3_holds l D cI cJ mm ac ar al aq ab th C R lim np qb qs wd sm 0 (by omega) (by omega) _) (gd_V q_577 q_579 q_1022 q_6 q_580) (by decide +kernel) rfl ⟨Nat.le_of_ble_eq_true rfl, Nat.le_of_ble_eq_true rfl⟩ ⟨Nat.le_of_ble_eq_true rfl, Nat.le_of_ble_eq_true rfl⟩ [0] [1, 2, 3] rfl rfl (by decide) (by decide) (by decide) 0 (ci := 3) rfl rfl rfl rfl (Nat.le_of_ble_eq_true rfl) dX3_cableAt_23 (fun r_8 u H locs hq_7 hP hD hS => ?_)
    have hP := hP.sub (ws' := [(mm, .inr (3, [.int (iI 0), .int (iI C), .int (iI R), .int (iI lim), .int (iI np), .ref ac, .ref ar, .int (iI qb), .int (iI qs), .int (iI wd), .int (iI sm), .ref al, .ref aq, .ref ab])), (ac, .inl (cI, 3, .inl (aI gc))), (ar, .inl (cI, 3, .inl (aI gr))), (al, .inl (cI, 16807, .inl (aI gl)))]) [3, 0, 1, 2] rfl
    have hD := hD.sub (ws' := [(mm, .inr (3, [.int (iI 0), .int (iI C), .int (iI R), .int (iI lim), .int (iI np), .ref ac, .ref ar, .int (iI qb), .int (iI qs), .int (iI wd), .int (iI sm), .ref al, .ref aq, .ref ab])), (ac, .inl (cI, 3, .inl (aI gc))), (ar, .inl (cI, 3, .inl (aI gr))), (al, .inl (cI, 16807, .inl (aI gl)))]) [3, 0, 1, 2] (by decide) rfl
    try dsimp only at hq_7
    refine zv_if_ne hx hb dX3_cableAt_26 (tgt := 31) (by decide) ⟨by omega, by omega⟩ (fun c_9 => ?_) (fun c_9 => by exfalso; omega)
    refine lv_aload_n hx hb dX3_cableAt_31 rfl (lv_at hl 0 rfl) ?_
    refine zc_V (As := []) (rest := []) (ws := [(mm, .inr (3, [.int (iI 0), .int (iI C), .int (iI R), .int (iI lim), .int (iI np), .ref ac, .ref ar, .int (iI qb), .int (iI qs), .int (iI wd), .int (iI sm), .ref al, .ref aq, .ref ab])), (ac, .inl (cI, 3, .inl (aI gc))), (ar, .inl (cI, 3, .inl (aI gr))), (al, .inl (cI, 16807, .inl (aI gl)))]) (n := 0) hx hb (hml.trans hl.1.symm) hts hown hK hP (c_X3_place l D cI cJ mm ac ar al aq ab 0 C R lim np qb qs wd sm) (gd_V q_589 q_591 q_1023 q_6 q_592) (by decide +kernel) rfl ⟨Nat.le_of_ble_eq_true rfl, Nat.le_of_ble_eq_true rfl⟩ ⟨Nat.le_of_ble_eq_true rfl, Nat.le_of_ble_eq_true rfl⟩ [0] rfl 0 (ci := 3) rfl rfl rfl rfl (Nat.le_of_ble_eq_true rfl) dX3_cableAt_32 (fun r_10 hr_10 => ?_)
    subst r_10
    refine zv_top (y := tauZ P) (hqs) ?_
    refine lv_istore_n (lv' := [(2, .int (iI (tauZ P))), (0, .ref mm), (1, .int (iI k))]) hx hb dX3_cableAt_35 rfl hl (by decide) rfl (fun ls hl => ?_)
    refine zv_iconst hx hb dX3_cableAt_36 ?_
    refine lv_istore_n (lv' := [(3, .int (iI 0)), (2, .int (iI (tauZ P))), (0, .ref mm), (1, .int (iI k))]) hx hb dX3_cableAt_37 rfl hl (by decide) rfl (fun ls hl => ?_)
    have loop38 : ∀ (nn : Nat) (x i : Int) (j : Nat), (i = (j : Int)) → (i ≤ k) → (x = tauZ (alZ C R N L P j)) → (k - i < (nn : Int)) → ∀ (H : Heap) (locs : List Loc), va_P D vwCl [(mm, .inr (3, [.int (iI 0), .int (iI C), .int (iI R), .int (iI lim), .int (iI np), .ref ac, .ref ar, .int (iI qb), .int (iI qs), .int (iI wd), .int (iI sm), .ref al, .ref aq, .ref ab])), (ac, .inl (cI, 3, .inl (aI gc))), (ar, .inl (cI, 3, .inl (aI gr))), (al, .inl (cI, 16807, .inl (aI gl)))] H → va_D A [(mm, .inr (3, [.int (iI 0), .int (iI C), .int (iI R), .int (iI lim), .int (iI np), .ref ac, .ref ar, .int (iI qb), .int (iI qs), .int (iI wd), .int (iI sm), .ref al, .ref aq, .ref ab])), (ac, .inl (cI, 3, .inl (aI gc))), (ar, .inl (cI, 3, .inl (aI gr))), (al, .inl (cI, 16807, .inl (aI gl)))] → va_S A s.heap H locs → ∀ ls : Array Slot, lv_has ls 4 [(0, .ref mm), (1, .int (iI k)), (2, .int (iI x)), (3, .int (iI i))] → W p l e (rmM 5 0 0) s m [.ref mm, .int (iI k)].toArray below meth c H locs 0 0 (MQ below (QMi D A (fun (r : Int) (u : Int) => (u = 1 ∧ ¬ (0 ≤ k ∧ k ≤ L P)) ∨ (u = 0 ∧ (0 ≤ k ∧ k ≤ L P) ∧ r = 10 * (alZ C R N L P k.toNat / 343 / 7) + alZ C R N L P k.toNat / 343 % 7)) (fun u : Int => [(mm, .inr (3, [.int (iI u), .int (iI C), .int (iI R), .int (iI lim), .int (iI np), .ref ac, .ref ar, .int (iI qb), .int (iI qs), .int (iI wd), .int (iI sm), .ref al, .ref aq, .ref ab])), (ac, .inl (cI, 3, .inl (aI gc))), (ar, .inl (cI, 3, .inl (aI gr))), (al, .inl (cI, 16807, .inl (aI gl)))])) [.ref mm, .int (iI k)].toArray s 0 0 A) (F0 m 38 ls []) := by
      intro nn
      induction nn with
      | zero => intro x i j hij hik hxe hms; exfalso; omega
      | succ nn ih38 =>
        intro x i j hij hik hxe hms H locs hP hD hS ls hl
        obtain ⟨hj1, hj2⟩ := hcb.2.1 j (by omega)
        obtain ⟨ha0, ha1, ha2, ha3, -, -⟩ := id hj2
        have hta := tauZ_of ha0 ha1
        refine lv_iload_n hx hb dX3_cableAt_38 rfl (lv_at hl 3 rfl) ?_
        refine lv_iload_n hx hb dX3_cableAt_39 rfl (lv_at hl 1 rfl) ?_
        refine zv_icmp_ge hx hb dX3_cableAt_40 (tgt := 60) (by decide) ⟨by omega, by omega⟩ ⟨by omega, by omega⟩ (fun c_11 => ?_) (fun c_11 => ?_)
        · refine zv_bipush hx hb dX3_cableAt_60 (by decide) ?_
          refine lv_iload_n hx hb dX3_cableAt_62 rfl (lv_at hl 2 rfl) ?_
          refine zv_sipush hx hb dX3_cableAt_63 (by decide) ?_
          refine zv_idiv hx hb dX3_cableAt_66 (by omega) (by omega) (by omega) (by omega) ?_
          refine zv_bipush hx hb dX3_cableAt_67 (by decide) ?_
          refine zv_irem hx hb dX3_cableAt_69 (by omega) (by omega) (by omega) (by omega) ?_
          refine zv_imul hx hb dX3_cableAt_70 ?_
          refine lv_iload_n hx hb dX3_cableAt_71 rfl (lv_at hl 2 rfl) ?_
          refine zv_sipush hx hb dX3_cableAt_72 (by decide) ?_
          refine zv_idiv hx hb dX3_cableAt_75 (by omega) (by omega) (by omega) (by omega) ?_
          refine zv_bipush hx hb dX3_cableAt_76 (by decide) ?_
          refine zv_idiv hx hb dX3_cableAt_78 (by omega) (by omega) (by omega) (by omega) ?_
          refine zv_iadd hx hb dX3_cableAt_79 ?_
          exact MM_iret (0) hx hb hr hlk hP hD hS (Nat.le_of_ble_eq_true rfl) (Nat.le_of_ble_eq_true rfl) dX3_cableAt_80 (by rw [show k.toNat = j by omega]; exact Or.inr ⟨rfl, by omega, by omega⟩)
        · obtain ⟨-, hA2, hA3⟩ := hcb.2.2 j (by omega)
          have hnx := (hcb.2.1 (j + 1) (by omega)).2.1
          refine lv_aload_n hx hb dX3_cableAt_43 rfl (lv_at hl 0 rfl) ?_
          refine lv_iload_n hx hb dX3_cableAt_44 rfl (lv_at hl 2 rfl) ?_
          refine lv_aload_n hx hb dX3_cableAt_45 rfl (lv_at hl 0 rfl) ?_
          refine lv_iload_n hx hb dX3_cableAt_46 rfl (lv_at hl 2 rfl) ?_
          refine zc_V (As := [.int (iI x)]) (rest := [.int (iI x), .ref mm]) (ws := [(mm, .inr (3, [.int (iI 0), .int (iI C), .int (iI R), .int (iI lim), .int (iI np), .ref ac, .ref ar, .int (iI qb), .int (iI qs), .int (iI wd), .int (iI sm), .ref al, .ref aq, .ref ab])), (ac, .inl (cI, 3, .inl (aI gc))), (ar, .inl (cI, 3, .inl (aI gr))), (al, .inl (cI, 16807, .inl (aI gl)))]) (n := 1) hx hb (hml.trans hl.1.symm) hts hown hK hP (c_X3_along l D cI cJ mm ac ar al aq ab 0 C R lim np qb qs wd sm gc gr gl N L x hM hL hlm (by omega) (by omega) (by omega)) (gd_V q_613 q_615 q_1027 q_6 q_616) (by decide +kernel) rfl ⟨Nat.le_of_ble_eq_true rfl, Nat.le_of_ble_eq_true rfl⟩ ⟨Nat.le_of_ble_eq_true rfl, Nat.le_of_ble_eq_true rfl⟩ [0, 1, 2, 3] rfl 0 (ci := 3) rfl rfl rfl rfl (Nat.le_of_ble_eq_true rfl) dX3_cableAt_47 (fun r_12 hr_12 => ?_)
          subst r_12
          refine zv_top (y := cdZ C R N L (alZ C R N L P j)) (by rw [hxe, tauZ_tauZ ha0 ha1]) ?_
          refine zc_V (As := [.int (iI x), .int (iI (cdZ C R N L (alZ C R N L P j)))]) (rest := []) (ws := [(mm, .inr (3, [.int (iI 0), .int (iI C), .int (iI R), .int (iI lim), .int (iI np), .ref ac, .ref ar, .int (iI qb), .int (iI qs), .int (iI wd), .int (iI sm), .ref al, .ref aq, .ref ab])), (ac, .inl (cI, 3, .inl (aI gc))), (ar, .inl (cI, 3, .inl (aI gr))), (al, .inl (cI, 16807, .inl (aI gl)))]) (n := 2) hx hb (hml.trans hl.1.symm) hts hown hK hP (c_X3_after l D cI cJ mm ac ar al aq ab 0 C R lim np qb qs wd sm gc gr N x (cdZ C R N L (alZ C R N L P j)) hM (by omega) (by omega) (by omega) (by omega) (by omega)) (gd_V q_489 q_491 q_1015 q_6 q_492) (by decide +kernel) rfl ⟨Nat.le_of_ble_eq_true rfl, Nat.le_of_ble_eq_true rfl⟩ ⟨Nat.le_of_ble_eq_true rfl, Nat.le_of_ble_eq_true rfl⟩ [0, 1, 2] rfl 0 (ci := 3) rfl rfl rfl rfl (Nat.le_of_ble_eq_true rfl) dX3_cableAt_50 (fun r_13 hr_13 => ?_)
          subst r_13
          refine zv_top (y := tauZ (alZ C R N L P (j + 1))) (by rw [hxe, tauZ_tauZ ha0 ha1]; exact tM_of hnx) ?_
          refine lv_istore_n (lv' := [(2, .int (iI (tauZ (alZ C R N L P (j + 1))))), (0, .ref mm), (1, .int (iI k)), (3, .int (iI i))]) hx hb dX3_cableAt_53 rfl hl (by decide) rfl (fun ls hl => ?_)
          refine zv_iinc (k := 3) (lv' := [(3, .int (iI (i + 1))), (2, .int (iI (tauZ (alZ C R N L P (j + 1))))), (0, .ref mm), (1, .int (iI k))]) hx hb dX3_cableAt_54 hl rfl (by decide) rfl (fun ls hl => ?_)
          refine lv_goto (tgt := 38) hx hb dX3_cableAt_57 (by decide) ?_
          exact ih38 (tauZ (alZ C R N L P (j + 1))) (i + 1) (j + 1) (by omega) (by omega) rfl (by omega) _ _ hP hD hS ls (lv_sub hl [2, 3, 1, 0] rfl)
    exact loop38 (k.toNat + 1) (tauZ P) 0 0 (by omega) (by omega) rfl (by omega) _ _ hP hD hS ls (lv_sub hl [2, 3, 1, 0] rfl)
set_option maxRecDepth 100000 in
set_option maxHeartbeats 4000000 in
theorem c_X3_bends (l : Launch) (D : va_G) (cI cJ : ClassId) (mm ac ar al aq ab : Nat) (th C R lim np qb qs wd sm : Int) (gc gr gl : Nat → Int) (N L : Int → Int) (P : Int) (hM : MdOK C R np N gc gr) (hL : MLen L gl) (hlm : 1 ≤ lim ∧ lim ≤ 60) (hcb : CbOK C R N L P) (hPb : 0 ≤ P ∧ P < 16807) (hqs : 343 * qs + wd = tauZ P) (hwd : 0 ≤ wd ∧ wd < 343) (sz : Nat) : MMi l yX3_bends (.code yX3_bends cX3_bends 5 (some .int)) 5 0 0 [.ref mm] D cI cJ [(mm, .inr (3, [.int (iI th), .int (iI C), .int (iI R), .int (iI lim), .int (iI np), .ref ac, .ref ar, .int (iI qb), .int (iI qs), .int (iI wd), .int (iI sm), .ref al, .ref aq, .ref ab])), (ac, .inl (cI, 3, .inl (aI gc))), (ar, .inl (cI, 3, .inl (aI gr))), (al, .inl (cI, 16807, .inl (aI gl)))] sz (fun (r : Int) (u : Unit) => r = bdN C R N L P (L P - 1).toNat) (fun u : Unit => [(mm, .inr (3, [.int (iI 0), .int (iI C), .int (iI R), .int (iI lim), .int (iI np), .ref ac, .ref ar, .int (iI qb), .int (iI qs), .int (iI wd), .int (iI sm), .ref al, .ref aq, .ref ab])), (ac, .inl (cI, 3, .inl (aI gc))), (ar, .inl (cI, 3, .inl (aI gr))), (al, .inl (cI, 16807, .inl (aI gl)))]) := by
  obtain ⟨hP0, hP1⟩ := hPb
  obtain ⟨hw0, hw1⟩ := hwd
  have htz := tauZ_of hP0 hP1
  have hqv : qs = P / 343 % 7 * 7 + P / 343 / 7 := by omega
  have hwv : wd = P % 343 := by omega
  obtain ⟨hC1, hC2, hR1, hR2, hp1, hp2, -, -⟩ := id hM
  have hLb := hL.b P
  have hcn : ∀ i : Nat, (i : Int) < L P → cdZ C R N L (alZ C R N L P i) ≠ -1 := fun i hi => by have := (hcb.2.2 i hi).2.1; omega
  refine MM_of (Qc := fun A => QMi D A (fun (r : Int) (u : Unit) => r = bdN C R N L P (L P - 1).toNat) (fun u : Unit => [(mm, .inr (3, [.int (iI 0), .int (iI C), .int (iI R), .int (iI lim), .int (iI np), .ref ac, .ref ar, .int (iI qb), .int (iI qs), .int (iI wd), .int (iI sm), .ref al, .ref aq, .ref ab])), (ac, .inl (cI, 3, .inl (aI gc))), (ar, .inl (cI, 3, .inl (aI gr))), (al, .inl (cI, 16807, .inl (aI gl)))])) (by decide) rfl (Nat.le_of_ble_eq_true rfl) (fun p e s m below meth c ls A hx hb hr hts hown hlk hml hin hK hP hD hA hS hl => ?_)
  have hl : lv_has ls 5 [(0, .ref mm)] := hl
  refine lv_aload_n hx hb dX3_bends_0 rfl (lv_at hl 0 rfl) ?_
  refine zv_iconst hx hb dX3_bends_1 ?_
  refine va_put (D := D) (ci := 3) (v := .int (iI 0)) (ty := .int) (C := RX3) (T := TX3) (N := 14) hx hb hts uX3 tyX3 tyX3_ok nmX3 hown hK.1 hP hD hS 0 rfl rfl 0 (by decide) (hts _ q_526) (fun _ h9 => h9) rfl (by decide +kernel) rfl rfl (Nat.le_of_ble_eq_true rfl) dX3_bends_2 (fun H locs hP hD hS => ?_)
  have hP : va_P D vwCl [(mm, .inr (3, [.int (iI 0), .int (iI C), .int (iI R), .int (iI lim), .int (iI np), .ref ac, .ref ar, .int (iI qb), .int (iI qs), .int (iI wd), .int (iI sm), .ref al, .ref aq, .ref ab])), (ac, .inl (cI, 3, .inl (aI gc))), (ar, .inl (cI, 3, .inl (aI gr))), (al, .inl (cI, 16807, .inl (aI gl)))] H := hP
  have hD : va_D A [(mm, .inr (3, [.int (iI 0), .int (iI C), .int (iI R), .int (iI lim), .int (iI np), .ref ac, .ref ar, .int (iI qb), .int (iI qs), .int (iI wd), .int (iI sm), .ref al, .ref aq, .ref ab])), (ac, .inl (cI, 3, .inl (aI gc))), (ar, .inl (cI, 3, .inl (aI gr))), (al, .inl (cI, 16807, .inl (aI gl)))] := hD
  refine zv_iconst hx hb dX3_bends_5 ?_
  refine lv_istore_n (lv' := [(1, .int (iI 0)), (0, .ref mm)]) hx hb dX3_bends_6 rfl hl (by decide) rfl (fun ls hl => ?_)
  refine zv_iconst hx hb dX3_bends_7 ?_
  refine lv_istore_n (lv' := [(2, .int (iI (-1))), (1, .int (iI 0)), (0, .ref mm)]) hx hb dX3_bends_8 rfl hl (by decide) rfl (fun ls hl => ?_)
  refine lv_aload_n hx hb dX3_bends_9 rfl (lv_at hl 2 rfl) ?_
  refine zc_V (As := []) (rest := []) (ws := [(mm, .inr (3, [.int (iI 0), .int (iI C), .int (iI R), .int (iI lim), .int (iI np), .ref ac, .ref ar, .int (iI qb), .int (iI qs), .int (iI wd), .int (iI sm), .ref al, .ref aq, .ref ab])), (ac, .inl (cI, 3, .inl (aI gc))), (ar, .inl (cI, 3, .inl (aI gr))), (al, .inl (cI, 16807, .inl (aI gl)))]) (n := 0) hx hb (hml.trans hl.1.symm) hts hown hK hP (c_X3_place l D cI cJ mm ac ar al aq ab 0 C R lim np qb qs wd sm) (gd_V q_589 q_591 q_1023 q_6 q_592) (by decide +kernel) rfl ⟨Nat.le_of_ble_eq_true rfl, Nat.le_of_ble_eq_true rfl⟩ ⟨Nat.le_of_ble_eq_true rfl, Nat.le_of_ble_eq_true rfl⟩ [0] rfl 0 (ci := 3) rfl rfl rfl rfl (Nat.le_of_ble_eq_true rfl) dX3_bends_10 (fun r_1 hr_1 => ?_)
  subst r_1
  refine zv_top (y := tauZ P) (hqs) ?_
  refine lv_istore_n (lv' := [(3, .int (iI (tauZ P))), (2, .int (iI (-1))), (1, .int (iI 0)), (0, .ref mm)]) hx hb dX3_bends_13 rfl hl (by decide) rfl (fun ls hl => ?_)
  have loop14 : ∀ (nn : Nat) (u y x : Int) (j : Nat), ((j : Int) ≤ L P) → (x = tauZ (alZ C R N L P j)) → (u = bdM C R N L P j) → (y = laM C R N L P j) → (L P - (j : Int) + 1 < (nn : Int)) → ∀ (H : Heap) (locs : List Loc), va_P D vwCl [(mm, .inr (3, [.int (iI 0), .int (iI C), .int (iI R), .int (iI lim), .int (iI np), .ref ac, .ref ar, .int (iI qb), .int (iI qs), .int (iI wd), .int (iI sm), .ref al, .ref aq, .ref ab])), (ac, .inl (cI, 3, .inl (aI gc))), (ar, .inl (cI, 3, .inl (aI gr))), (al, .inl (cI, 16807, .inl (aI gl)))] H → va_D A [(mm, .inr (3, [.int (iI 0), .int (iI C), .int (iI R), .int (iI lim), .int (iI np), .ref ac, .ref ar, .int (iI qb), .int (iI qs), .int (iI wd), .int (iI sm), .ref al, .ref aq, .ref ab])), (ac, .inl (cI, 3, .inl (aI gc))), (ar, .inl (cI, 3, .inl (aI gr))), (al, .inl (cI, 16807, .inl (aI gl)))] → va_S A s.heap H locs → ∀ ls : Array Slot, lv_has ls 5 [(0, .ref mm), (1, .int (iI u)), (2, .int (iI y)), (3, .int (iI x))] → W p l e (rmM 5 0 0) s m [.ref mm].toArray below meth c H locs 0 0 (MQ below (QMi D A (fun (r : Int) (u : Unit) => r = bdN C R N L P (L P - 1).toNat) (fun u : Unit => [(mm, .inr (3, [.int (iI 0), .int (iI C), .int (iI R), .int (iI lim), .int (iI np), .ref ac, .ref ar, .int (iI qb), .int (iI qs), .int (iI wd), .int (iI sm), .ref al, .ref aq, .ref ab])), (ac, .inl (cI, 3, .inl (aI gc))), (ar, .inl (cI, 3, .inl (aI gr))), (al, .inl (cI, 16807, .inl (aI gl)))])) [.ref mm].toArray s 0 0 A) (F0 m 14 ls []) := by
    intro nn
    induction nn with
    | zero => intro u y x j hj hxe hu hy hms; exfalso; omega
    | succ nn ih14 =>
      intro u y x j hj hxe hu hy hms H locs hP hD hS ls hl
      obtain ⟨hj1, hj2⟩ := hcb.2.1 j (by omega)
      obtain ⟨ha0, ha1, ha2, ha3, -, -⟩ := id hj2
      have hta := tauZ_of ha0 ha1
      have hbr := bdM_r C R N L P j
      rw [← hu, ← hy] at hbr
      refine lv_aload_n hx hb dX3_bends_14 rfl (lv_at hl 0 rfl) ?_
      refine va_get (D := D) (ci := 3) (v := .ref al) (C := RX3) (T := TX3) (N := 14) hx hb hts uX3 hown hK.1 hP 0 rfl rfl 11 (by decide) (hts _ q_537) (fun _ h9 => h9) rfl dX3_bends_15 ?_
      refine lv_iload_n hx hb dX3_bends_18 rfl (lv_at hl 3 rfl) ?_
      refine zv_iald hx hb hK.1 hP 3 0 rfl rfl (by omega) (by omega) (by omega) dX3_bends_19 ?_
      refine zv_top (y := L (alZ C R N L P j)) (by rw [hxe]; exact hL.1 _ ha0 ha1) ?_
      refine zv_if_le hx hb dX3_bends_20 (tgt := 62) (by decide) ⟨by omega, by omega⟩ (fun c_2 => ?_) (fun c_2 => ?_)
      · refine lv_iload_n hx hb dX3_bends_62 rfl (lv_at hl 1 rfl) ?_
        exact MM_iret (()) hx hb hr hlk hP hD hS (Nat.le_of_ble_eq_true rfl) (Nat.le_of_ble_eq_true rfl) dX3_bends_63 (by rw [hu]; exact bdM_e (by omega))
      · obtain ⟨-, hA2, hA3⟩ := hcb.2.2 j (by omega)
        have hnx := (hcb.2.1 (j + 1) (by omega)).2.1
        refine lv_aload_n hx hb dX3_bends_23 rfl (lv_at hl 0 rfl) ?_
        refine lv_iload_n hx hb dX3_bends_24 rfl (lv_at hl 3 rfl) ?_
        refine zc_V (As := [.int (iI x)]) (rest := []) (ws := [(mm, .inr (3, [.int (iI 0), .int (iI C), .int (iI R), .int (iI lim), .int (iI np), .ref ac, .ref ar, .int (iI qb), .int (iI qs), .int (iI wd), .int (iI sm), .ref al, .ref aq, .ref ab])), (ac, .inl (cI, 3, .inl (aI gc))), (ar, .inl (cI, 3, .inl (aI gr))), (al, .inl (cI, 16807, .inl (aI gl)))]) (n := 1) hx hb (hml.trans hl.1.symm) hts hown hK hP (c_X3_along l D cI cJ mm ac ar al aq ab 0 C R lim np qb qs wd sm gc gr gl N L x hM hL hlm (by omega) (by omega) (by omega)) (gd_V q_613 q_615 q_1027 q_6 q_616) (by decide +kernel) rfl ⟨Nat.le_of_ble_eq_true rfl, Nat.le_of_ble_eq_true rfl⟩ ⟨Nat.le_of_ble_eq_true rfl, Nat.le_of_ble_eq_true rfl⟩ [0, 1, 2, 3] rfl 0 (ci := 3) rfl rfl rfl rfl (Nat.le_of_ble_eq_true rfl) dX3_bends_25 (fun r_3 hr_3 => ?_)
        subst r_3
        refine zv_top (y := cdZ C R N L (alZ C R N L P j)) (by rw [hxe, tauZ_tauZ ha0 ha1]) ?_
        refine lv_istore (lv' := [(4, .int (iI (cdZ C R N L (alZ C R N L P j)))), (0, .ref mm), (1, .int (iI u)), (2, .int (iI y)), (3, .int (iI x))]) hx hb dX3_bends_28 hl (by decide) rfl (fun ls hl => ?_)
        refine lv_iload_n hx hb dX3_bends_30 rfl (lv_at hl 2 rfl) ?_
        refine lv_iload_n hx hb dX3_bends_31 rfl (lv_at hl 3 rfl) ?_
        refine zv_iconst hx hb dX3_bends_32 ?_
        refine zv_icmp_eq hx hb dX3_bends_33 (tgt := 46) (by decide) ⟨by omega, by omega⟩ ⟨by omega, by omega⟩ (fun c_4 => ?_) (fun c_4 => ?_)
        · refine zv_iconst hx hb dX3_bends_46 ?_
          refine zv_iadd hx hb dX3_bends_47 ?_
          refine lv_istore_n (lv' := [(1, .int (iI (u + 0))), (4, .int (iI (cdZ C R N L (alZ C R N L P j)))), (0, .ref mm), (2, .int (iI y)), (3, .int (iI x))]) hx hb dX3_bends_48 rfl hl (by decide) rfl (fun ls hl => ?_)
          refine lv_iload hx hb dX3_bends_49 (lv_at hl 1 rfl) ?_
          refine lv_istore_n (lv' := [(2, .int (iI (cdZ C R N L (alZ C R N L P j)))), (1, .int (iI (u + 0))), (4, .int (iI (cdZ C R N L (alZ C R N L P j)))), (0, .ref mm), (3, .int (iI x))]) hx hb dX3_bends_51 rfl hl (by decide) rfl (fun ls hl => ?_)
          refine lv_aload_n hx hb dX3_bends_52 rfl (lv_at hl 3 rfl) ?_
          refine lv_iload_n hx hb dX3_bends_53 rfl (lv_at hl 4 rfl) ?_
          refine lv_iload_n hx hb dX3_bends_54 rfl (lv_at hl 0 rfl) ?_
          refine zc_V (As := [.int (iI x), .int (iI (cdZ C R N L (alZ C R N L P j)))]) (rest := []) (ws := [(mm, .inr (3, [.int (iI 0), .int (iI C), .int (iI R), .int (iI lim), .int (iI np), .ref ac, .ref ar, .int (iI qb), .int (iI qs), .int (iI wd), .int (iI sm), .ref al, .ref aq, .ref ab])), (ac, .inl (cI, 3, .inl (aI gc))), (ar, .inl (cI, 3, .inl (aI gr))), (al, .inl (cI, 16807, .inl (aI gl)))]) (n := 2) hx hb (hml.trans hl.1.symm) hts hown hK hP (c_X3_after l D cI cJ mm ac ar al aq ab 0 C R lim np qb qs wd sm gc gr N x (cdZ C R N L (alZ C R N L P j)) hM (by omega) (by omega) (by omega) (by omega) (by omega)) (gd_V q_489 q_491 q_1015 q_6 q_492) (by decide +kernel) rfl ⟨Nat.le_of_ble_eq_true rfl, Nat.le_of_ble_eq_true rfl⟩ ⟨Nat.le_of_ble_eq_true rfl, Nat.le_of_ble_eq_true rfl⟩ [0, 1, 2] rfl 0 (ci := 3) rfl rfl rfl rfl (Nat.le_of_ble_eq_true rfl) dX3_bends_55 (fun r_5 hr_5 => ?_)
          subst r_5
          refine zv_top (y := tauZ (alZ C R N L P (j + 1))) (by rw [hxe, tauZ_tauZ ha0 ha1]; exact tM_of hnx) ?_
          refine lv_istore_n (lv' := [(3, .int (iI (tauZ (alZ C R N L P (j + 1))))), (2, .int (iI (cdZ C R N L (alZ C R N L P j)))), (1, .int (iI (u + 0))), (4, .int (iI (cdZ C R N L (alZ C R N L P j)))), (0, .ref mm)]) hx hb dX3_bends_58 rfl hl (by decide) rfl (fun ls hl => ?_)
          refine lv_goto (tgt := 14) hx hb dX3_bends_59 (by decide) ?_
          exact ih14 (u + 0) (cdZ C R N L (alZ C R N L P j)) (tauZ (alZ C R N L P (j + 1))) (j + 1) (by omega) rfl (by rw [hu]; first | rw [bdM_a (fun i hi => hcn i (by omega)) (Or.inl (hy ▸ by assumption))]; exact Int.add_zero _ | rw [bdM_a (fun i hi => hcn i (by omega)) (Or.inr (hy ▸ by assumption))]; exact Int.add_zero _ | exact bdM_b (hy ▸ by assumption) (hy ▸ by assumption)) rfl (by omega) _ _ hP hD hS ls (lv_sub hl [4, 2, 1, 0] rfl)
        · refine lv_iload_n hx hb dX3_bends_36 rfl (lv_at hl 3 rfl) ?_
          refine lv_iload hx hb dX3_bends_37 (lv_at hl 0 rfl) ?_
          refine zv_icmp_eq hx hb dX3_bends_39 (tgt := 46) (by decide) ⟨by omega, by omega⟩ ⟨by omega, by omega⟩ (fun c_6 => ?_) (fun c_6 => ?_)
          · refine zv_iconst hx hb dX3_bends_46 ?_
            refine zv_iadd hx hb dX3_bends_47 ?_
            refine lv_istore_n (lv' := [(1, .int (iI (u + 0))), (4, .int (iI (cdZ C R N L (alZ C R N L P j)))), (0, .ref mm), (2, .int (iI y)), (3, .int (iI x))]) hx hb dX3_bends_48 rfl hl (by decide) rfl (fun ls hl => ?_)
            refine lv_iload hx hb dX3_bends_49 (lv_at hl 1 rfl) ?_
            refine lv_istore_n (lv' := [(2, .int (iI (cdZ C R N L (alZ C R N L P j)))), (1, .int (iI (u + 0))), (4, .int (iI (cdZ C R N L (alZ C R N L P j)))), (0, .ref mm), (3, .int (iI x))]) hx hb dX3_bends_51 rfl hl (by decide) rfl (fun ls hl => ?_)
            refine lv_aload_n hx hb dX3_bends_52 rfl (lv_at hl 3 rfl) ?_
            refine lv_iload_n hx hb dX3_bends_53 rfl (lv_at hl 4 rfl) ?_
            refine lv_iload_n hx hb dX3_bends_54 rfl (lv_at hl 0 rfl) ?_
            refine zc_V (As := [.int (iI x), .int (iI (cdZ C R N L (alZ C R N L P j)))]) (rest := []) (ws := [(mm, .inr (3, [.int (iI 0), .int (iI C), .int (iI R), .int (iI lim), .int (iI np), .ref ac, .ref ar, .int (iI qb), .int (iI qs), .int (iI wd), .int (iI sm), .ref al, .ref aq, .ref ab])), (ac, .inl (cI, 3, .inl (aI gc))), (ar, .inl (cI, 3, .inl (aI gr))), (al, .inl (cI, 16807, .inl (aI gl)))]) (n := 2) hx hb (hml.trans hl.1.symm) hts hown hK hP (c_X3_after l D cI cJ mm ac ar al aq ab 0 C R lim np qb qs wd sm gc gr N x (cdZ C R N L (alZ C R N L P j)) hM (by omega) (by omega) (by omega) (by omega) (by omega)) (gd_V q_489 q_491 q_1015 q_6 q_492) (by decide +kernel) rfl ⟨Nat.le_of_ble_eq_true rfl, Nat.le_of_ble_eq_true rfl⟩ ⟨Nat.le_of_ble_eq_true rfl, Nat.le_of_ble_eq_true rfl⟩ [0, 1, 2] rfl 0 (ci := 3) rfl rfl rfl rfl (Nat.le_of_ble_eq_true rfl) dX3_bends_55 (fun r_7 hr_7 => ?_)
            subst r_7
            refine zv_top (y := tauZ (alZ C R N L P (j + 1))) (by rw [hxe, tauZ_tauZ ha0 ha1]; exact tM_of hnx) ?_
            refine lv_istore_n (lv' := [(3, .int (iI (tauZ (alZ C R N L P (j + 1))))), (2, .int (iI (cdZ C R N L (alZ C R N L P j)))), (1, .int (iI (u + 0))), (4, .int (iI (cdZ C R N L (alZ C R N L P j)))), (0, .ref mm)]) hx hb dX3_bends_58 rfl hl (by decide) rfl (fun ls hl => ?_)
            refine lv_goto (tgt := 14) hx hb dX3_bends_59 (by decide) ?_
            exact ih14 (u + 0) (cdZ C R N L (alZ C R N L P j)) (tauZ (alZ C R N L P (j + 1))) (j + 1) (by omega) rfl (by rw [hu]; first | rw [bdM_a (fun i hi => hcn i (by omega)) (Or.inl (hy ▸ by assumption))]; exact Int.add_zero _ | rw [bdM_a (fun i hi => hcn i (by omega)) (Or.inr (hy ▸ by assumption))]; exact Int.add_zero _ | exact bdM_b (hy ▸ by assumption) (hy ▸ by assumption)) rfl (by omega) _ _ hP hD hS ls (lv_sub hl [4, 2, 1, 0] rfl)
          · refine zv_iconst hx hb dX3_bends_42 ?_
            refine lv_goto (tgt := 47) hx hb dX3_bends_43 (by decide) ?_
            refine zv_iadd hx hb dX3_bends_47 ?_
            refine lv_istore_n (lv' := [(1, .int (iI (u + 1))), (4, .int (iI (cdZ C R N L (alZ C R N L P j)))), (0, .ref mm), (2, .int (iI y)), (3, .int (iI x))]) hx hb dX3_bends_48 rfl hl (by decide) rfl (fun ls hl => ?_)
            refine lv_iload hx hb dX3_bends_49 (lv_at hl 1 rfl) ?_
            refine lv_istore_n (lv' := [(2, .int (iI (cdZ C R N L (alZ C R N L P j)))), (1, .int (iI (u + 1))), (4, .int (iI (cdZ C R N L (alZ C R N L P j)))), (0, .ref mm), (3, .int (iI x))]) hx hb dX3_bends_51 rfl hl (by decide) rfl (fun ls hl => ?_)
            refine lv_aload_n hx hb dX3_bends_52 rfl (lv_at hl 3 rfl) ?_
            refine lv_iload_n hx hb dX3_bends_53 rfl (lv_at hl 4 rfl) ?_
            refine lv_iload_n hx hb dX3_bends_54 rfl (lv_at hl 0 rfl) ?_
            refine zc_V (As := [.int (iI x), .int (iI (cdZ C R N L (alZ C R N L P j)))]) (rest := []) (ws := [(mm, .inr (3, [.int (iI 0), .int (iI C), .int (iI R), .int (iI lim), .int (iI np), .ref ac, .ref ar, .int (iI qb), .int (iI qs), .int (iI wd), .int (iI sm), .ref al, .ref aq, .ref ab])), (ac, .inl (cI, 3, .inl (aI gc))), (ar, .inl (cI, 3, .inl (aI gr))), (al, .inl (cI, 16807, .inl (aI gl)))]) (n := 2) hx hb (hml.trans hl.1.symm) hts hown hK hP (c_X3_after l D cI cJ mm ac ar al aq ab 0 C R lim np qb qs wd sm gc gr N x (cdZ C R N L (alZ C R N L P j)) hM (by omega) (by omega) (by omega) (by omega) (by omega)) (gd_V q_489 q_491 q_1015 q_6 q_492) (by decide +kernel) rfl ⟨Nat.le_of_ble_eq_true rfl, Nat.le_of_ble_eq_true rfl⟩ ⟨Nat.le_of_ble_eq_true rfl, Nat.le_of_ble_eq_true rfl⟩ [0, 1, 2] rfl 0 (ci := 3) rfl rfl rfl rfl (Nat.le_of_ble_eq_true rfl) dX3_bends_55 (fun r_8 hr_8 => ?_)
            subst r_8
            refine zv_top (y := tauZ (alZ C R N L P (j + 1))) (by rw [hxe, tauZ_tauZ ha0 ha1]; exact tM_of hnx) ?_
            refine lv_istore_n (lv' := [(3, .int (iI (tauZ (alZ C R N L P (j + 1))))), (2, .int (iI (cdZ C R N L (alZ C R N L P j)))), (1, .int (iI (u + 1))), (4, .int (iI (cdZ C R N L (alZ C R N L P j)))), (0, .ref mm)]) hx hb dX3_bends_58 rfl hl (by decide) rfl (fun ls hl => ?_)
            refine lv_goto (tgt := 14) hx hb dX3_bends_59 (by decide) ?_
            exact ih14 (u + 1) (cdZ C R N L (alZ C R N L P j)) (tauZ (alZ C R N L P (j + 1))) (j + 1) (by omega) rfl (by rw [hu]; first | rw [bdM_a (fun i hi => hcn i (by omega)) (Or.inl (hy ▸ by assumption))]; exact Int.add_zero _ | rw [bdM_a (fun i hi => hcn i (by omega)) (Or.inr (hy ▸ by assumption))]; exact Int.add_zero _ | exact bdM_b (hy ▸ by assumption) (hy ▸ by assumption)) rfl (by omega) _ _ hP hD hS ls (lv_sub hl [4, 2, 1, 0] rfl)
  exact loop14 ((L P).toNat + 2) 0 (-1) (tauZ P) 0 hcb.1 rfl rfl rfl (by omega) _ _ hP hD hS ls (lv_sub hl [3, 2, 1, 0] rfl)
set_option maxRecDepth 100000 in
set_option maxHeartbeats 4000000 in
theorem c_X3_least (l : Launch) (D : va_G) (cI cJ : ClassId) (mm ac ar al aq ab : Nat) (th C R lim np qb qs wd sm : Int) (gc gr gl : Nat → Int) (N L : Int → Int) (P : Int) (a b : Int) (hM : MdOK C R np N gc gr) (hL : MLen L gl) (hlm : 1 ≤ lim ∧ lim ≤ 60) (ha1 : -2147483648 ≤ a) (ha2 : a < 2147483648) (hb1 : -2147483648 ≤ b) (hb2 : b < 2147483648) (hPb : 0 ≤ P ∧ P < 16807) (hqs : 343 * qs + wd = tauZ P) (hwd : 0 ≤ wd ∧ wd < 343) (sz : Nat) : MMi l yX3_least (.code yX3_least cX3_least 3 (some .int)) 2 0 0 [.ref mm, .int (iI a), .int (iI b)] D cI cJ [(mm, .inr (3, [.int (iI th), .int (iI C), .int (iI R), .int (iI lim), .int (iI np), .ref ac, .ref ar, .int (iI qb), .int (iI qs), .int (iI wd), .int (iI sm), .ref al, .ref aq, .ref ab])), (ac, .inl (cI, 3, .inl (aI gc))), (ar, .inl (cI, 3, .inl (aI gr))), (al, .inl (cI, 16807, .inl (aI gl)))] sz (fun (r : Int) (u : Int) => (u = 1 ∧ ¬ (0 ≤ a ∧ a < C ∧ 0 ≤ b ∧ b < R)) ∨ (u = 0 ∧ (0 ≤ a ∧ a < C ∧ 0 ≤ b ∧ b < R) ∧ r = lsZ L (a * 7 + b))) (fun u : Int => [(mm, .inr (3, [.int (iI u), .int (iI C), .int (iI R), .int (iI lim), .int (iI np), .ref ac, .ref ar, .int (iI qb), .int (iI qs), .int (iI wd), .int (iI sm), .ref al, .ref aq, .ref ab])), (ac, .inl (cI, 3, .inl (aI gc))), (ar, .inl (cI, 3, .inl (aI gr))), (al, .inl (cI, 16807, .inl (aI gl)))]) := by
  obtain ⟨hP0, hP1⟩ := hPb
  obtain ⟨hw0, hw1⟩ := hwd
  have htz := tauZ_of hP0 hP1
  have hqv : qs = P / 343 % 7 * 7 + P / 343 / 7 := by omega
  have hwv : wd = P % 343 := by omega
  obtain ⟨hC1, hC2, hR1, hR2, hp1, hp2, -, -⟩ := id hM
  refine MM_of (Qc := fun A => QMi D A (fun (r : Int) (u : Int) => (u = 1 ∧ ¬ (0 ≤ a ∧ a < C ∧ 0 ≤ b ∧ b < R)) ∨ (u = 0 ∧ (0 ≤ a ∧ a < C ∧ 0 ≤ b ∧ b < R) ∧ r = lsZ L (a * 7 + b))) (fun u : Int => [(mm, .inr (3, [.int (iI u), .int (iI C), .int (iI R), .int (iI lim), .int (iI np), .ref ac, .ref ar, .int (iI qb), .int (iI qs), .int (iI wd), .int (iI sm), .ref al, .ref aq, .ref ab])), (ac, .inl (cI, 3, .inl (aI gc))), (ar, .inl (cI, 3, .inl (aI gr))), (al, .inl (cI, 16807, .inl (aI gl)))])) (by decide) rfl (Nat.le_of_ble_eq_true rfl) (fun p e s m below meth c ls A hx hb hr hts hown hlk hml hin hK hP hD hA hS hl => ?_)
  have hl : lv_has ls 3 [(0, .ref mm), (1, .int (iI a)), (2, .int (iI b))] := hl
  refine lv_aload_n hx hb dX3_least_0 rfl (lv_at hl 0 rfl) ?_
  refine lv_aload_n hx hb dX3_least_1 rfl (lv_at hl 0 rfl) ?_
  refine lv_iload_n hx hb dX3_least_2 rfl (lv_at hl 1 rfl) ?_
  refine lv_iload_n hx hb dX3_least_3 rfl (lv_at hl 2 rfl) ?_
  refine zc_V (As := [.int (iI a), .int (iI b)]) (rest := [.ref mm]) (ws := [(mm, .inr (3, [.int (iI th), .int (iI C), .int (iI R), .int (iI lim), .int (iI np), .ref ac, .ref ar, .int (iI qb), .int (iI qs), .int (iI wd), .int (iI sm), .ref al, .ref aq, .ref ab])), (ac, .inl (cI, 3, .inl (aI gc))), (ar, .inl (cI, 3, .inl (aI gr))), (al, .inl (cI, 16807, .inl (aI gl)))]) (n := 2) hx hb (hml.trans hl.1.symm) hts hown hK hP (c_X3_isSquare l D cI cJ mm ac ar al aq ab th C R lim np qb qs wd sm gc gr N a b hM (by omega) (by omega) (by omega) (by omega)) (gd_V q_493 q_495 q_1016 q_6 q_496) (by decide +kernel) rfl ⟨Nat.le_of_ble_eq_true rfl, Nat.le_of_ble_eq_true rfl⟩ ⟨Nat.le_of_ble_eq_true rfl, Nat.le_of_ble_eq_true rfl⟩ [0, 1, 2] rfl 0 (ci := 3) rfl rfl rfl rfl (Nat.le_of_ble_eq_true rfl) dX3_least_4 (fun r_1 hr_1 => ?_)
  refine zv_if_eq hx hb dX3_least_7 (tgt := 14) (by decide) ⟨by omega, by omega⟩ (fun c_2 => ?_) (fun c_2 => ?_)
  · refine zv_iconst hx hb dX3_least_14 ?_
    refine zm_Vi (As := [.int (iI 1)]) (rest := []) (ws := [(mm, .inr (3, [.int (iI th), .int (iI C), .int (iI R), .int (iI lim), .int (iI np), .ref ac, .ref ar, .int (iI qb), .int (iI qs), .int (iI wd), .int (iI sm), .ref al, .ref aq, .ref ab])), (ac, .inl (cI, 3, .inl (aI gc))), (ar, .inl (cI, 3, .inl (aI gr))), (al, .inl (cI, 16807, .inl (aI gl)))]) (wr := [(ac, .inl (cI, 3, .inl (aI gc))), (ar, .inl (cI, 3, .inl (aI gr))), (al, .inl (cI, 16807, .inl (aI gl)))]) (n := 1) hx hb (hml.trans hl.1.symm) hts hown hK hP hD hS hA (c_X3_holds l D cI cJ mm ac ar al aq ab th C R lim np qb qs wd sm 1 (by omega) (by omega) _) (gd_V q_577 q_579 q_1022 q_6 q_580) (by decide +kernel) rfl ⟨Nat.le_of_ble_eq_true rfl, Nat.le_of_ble_eq_true rfl⟩ ⟨Nat.le_of_ble_eq_true rfl, Nat.le_of_ble_eq_true rfl⟩ [0] [1, 2, 3] rfl rfl (by decide) (by decide) (by decide) 0 (ci := 3) rfl rfl rfl rfl (Nat.le_of_ble_eq_true rfl) dX3_least_15 (fun r_4 u H locs hq_3 hP hD hS => ?_)
    have hP := hP.sub (ws' := [(mm, .inr (3, [.int (iI 1), .int (iI C), .int (iI R), .int (iI lim), .int (iI np), .ref ac, .ref ar, .int (iI qb), .int (iI qs), .int (iI wd), .int (iI sm), .ref al, .ref aq, .ref ab])), (ac, .inl (cI, 3, .inl (aI gc))), (ar, .inl (cI, 3, .inl (aI gr))), (al, .inl (cI, 16807, .inl (aI gl)))]) [3, 0, 1, 2] rfl
    have hD := hD.sub (ws' := [(mm, .inr (3, [.int (iI 1), .int (iI C), .int (iI R), .int (iI lim), .int (iI np), .ref ac, .ref ar, .int (iI qb), .int (iI qs), .int (iI wd), .int (iI sm), .ref al, .ref aq, .ref ab])), (ac, .inl (cI, 3, .inl (aI gc))), (ar, .inl (cI, 3, .inl (aI gr))), (al, .inl (cI, 16807, .inl (aI gl)))]) [3, 0, 1, 2] (by decide) rfl
    try dsimp only at hq_3
    refine zv_if_eq hx hb dX3_least_18 (tgt := 33) (by decide) ⟨by omega, by omega⟩ (fun c_5 => ?_) (fun c_5 => by exfalso; omega)
    refine zv_iconst hx hb dX3_least_33 ?_
    exact MM_iret (1) hx hb hr hlk hP hD hS (Nat.le_of_ble_eq_true rfl) (Nat.le_of_ble_eq_true rfl) dX3_least_34 (by omega)
  · refine zv_iconst hx hb dX3_least_10 ?_
    refine lv_goto (tgt := 15) hx hb dX3_least_11 (by decide) ?_
    refine zm_Vi (As := [.int (iI 0)]) (rest := []) (ws := [(mm, .inr (3, [.int (iI th), .int (iI C), .int (iI R), .int (iI lim), .int (iI np), .ref ac, .ref ar, .int (iI qb), .int (iI qs), .int (iI wd), .int (iI sm), .ref al, .ref aq, .ref ab])), (ac, .inl (cI, 3, .inl (aI gc))), (ar, .inl (cI, 3, .inl (aI gr))), (al, .inl (cI, 16807, .inl (aI gl)))]) (wr := [(ac, .inl (cI, 3, .inl (aI gc))), (ar, .inl (cI, 3, .inl (aI gr))), (al, .inl (cI, 16807, .inl (aI gl)))]) (n := 1) hx hb (hml.trans hl.1.symm) hts hown hK hP hD hS hA (c_X3_holds l D cI cJ mm ac ar al aq ab th C R lim np qb qs wd sm 0 (by omega) (by omega) _) (gd_V q_577 q_579 q_1022 q_6 q_580) (by decide +kernel) rfl ⟨Nat.le_of_ble_eq_true rfl, Nat.le_of_ble_eq_true rfl⟩ ⟨Nat.le_of_ble_eq_true rfl, Nat.le_of_ble_eq_true rfl⟩ [0] [1, 2, 3] rfl rfl (by decide) (by decide) (by decide) 0 (ci := 3) rfl rfl rfl rfl (Nat.le_of_ble_eq_true rfl) dX3_least_15 (fun r_7 u H locs hq_6 hP hD hS => ?_)
    have hP := hP.sub (ws' := [(mm, .inr (3, [.int (iI 0), .int (iI C), .int (iI R), .int (iI lim), .int (iI np), .ref ac, .ref ar, .int (iI qb), .int (iI qs), .int (iI wd), .int (iI sm), .ref al, .ref aq, .ref ab])), (ac, .inl (cI, 3, .inl (aI gc))), (ar, .inl (cI, 3, .inl (aI gr))), (al, .inl (cI, 16807, .inl (aI gl)))]) [3, 0, 1, 2] rfl
    have hD := hD.sub (ws' := [(mm, .inr (3, [.int (iI 0), .int (iI C), .int (iI R), .int (iI lim), .int (iI np), .ref ac, .ref ar, .int (iI qb), .int (iI qs), .int (iI wd), .int (iI sm), .ref al, .ref aq, .ref ab])), (ac, .inl (cI, 3, .inl (aI gc))), (ar, .inl (cI, 3, .inl (aI gr))), (al, .inl (cI, 16807, .inl (aI gl)))]) [3, 0, 1, 2] (by decide) rfl
    try dsimp only at hq_6
    refine zv_if_eq hx hb dX3_least_18 (tgt := 33) (by decide) ⟨by omega, by omega⟩ (fun c_8 => by exfalso; omega) (fun c_8 => ?_)
    refine lv_aload_n hx hb dX3_least_21 rfl (lv_at hl 0 rfl) ?_
    refine lv_iload_n hx hb dX3_least_22 rfl (lv_at hl 1 rfl) ?_
    refine lv_iload_n hx hb dX3_least_23 rfl (lv_at hl 2 rfl) ?_
    refine zc_S (As := [.int (iI a), .int (iI b)]) (rest := [.ref mm]) (ws := [(mm, .inr (3, [.int (iI 0), .int (iI C), .int (iI R), .int (iI lim), .int (iI np), .ref ac, .ref ar, .int (iI qb), .int (iI qs), .int (iI wd), .int (iI sm), .ref al, .ref aq, .ref ab])), (ac, .inl (cI, 3, .inl (aI gc))), (ar, .inl (cI, 3, .inl (aI gr))), (al, .inl (cI, 16807, .inl (aI gl)))]) (n := 2) hx hb (hml.trans hl.1.symm) hts hown hK hP (c_X3_squareOf l D cI cJ a b) (gd_S q_500 q_501 q_6 q_502) (by decide +kernel) rfl ⟨Nat.le_of_ble_eq_true rfl, Nat.le_of_ble_eq_true rfl⟩ ⟨Nat.le_of_ble_eq_true rfl, Nat.le_of_ble_eq_true rfl⟩ [] rfl rfl (Nat.le_of_ble_eq_true rfl) dX3_least_24 (fun r_9 hr_9 => ?_)
    subst r_9
    refine zc_V (As := [.int (iI (7 * b + a))]) (rest := []) (ws := [(mm, .inr (3, [.int (iI 0), .int (iI C), .int (iI R), .int (iI lim), .int (iI np), .ref ac, .ref ar, .int (iI qb), .int (iI qs), .int (iI wd), .int (iI sm), .ref al, .ref aq, .ref ab])), (ac, .inl (cI, 3, .inl (aI gc))), (ar, .inl (cI, 3, .inl (aI gr))), (al, .inl (cI, 16807, .inl (aI gl)))]) (n := 1) hx hb (hml.trans hl.1.symm) hts hown hK hP (c_X3_leastOf l D cI cJ mm ac ar al aq ab 0 C R lim np qb qs wd sm gc gr gl N L (7 * b + a) hM hL hlm (by omega) (by omega)) (gd_V q_664 q_666 q_1028 q_6 q_667) (by decide +kernel) rfl ⟨Nat.le_of_ble_eq_true rfl, Nat.le_of_ble_eq_true rfl⟩ ⟨Nat.le_of_ble_eq_true rfl, Nat.le_of_ble_eq_true rfl⟩ [0, 1, 2, 3] rfl 0 (ci := 3) rfl rfl rfl rfl (Nat.le_of_ble_eq_true rfl) dX3_least_27 (fun r_10 hr_10 => ?_)
    subst r_10
    refine zv_top (y := lsZ L (a * 7 + b)) (by rw [show (7 * b + a) % 7 * 7 + (7 * b + a) / 7 = a * 7 + b by omega]) ?_
    refine lv_goto (tgt := 34) hx hb dX3_least_30 (by decide) ?_
    exact MM_iret (0) hx hb hr hlk hP hD hS (Nat.le_of_ble_eq_true rfl) (Nat.le_of_ble_eq_true rfl) dX3_least_34 (by omega)
set_option maxRecDepth 100000 in
set_option maxHeartbeats 4000000 in
theorem c_X3_missing (l : Launch) (D : va_G) (cI cJ : ClassId) (mm ac ar al aq ab : Nat) (th C R lim np qb qs wd sm : Int) (gc gr gl : Nat → Int) (N L : Int → Int) (P : Int) (a b : Int) (hM : MdOK C R np N gc gr) (hL : MLen L gl) (hlm : 1 ≤ lim ∧ lim ≤ 60) (ha1 : -2147483648 ≤ a) (ha2 : a < 2147483648) (hb1 : -2147483648 ≤ b) (hb2 : b < 2147483648) (hPb : 0 ≤ P ∧ P < 16807) (hqs : 343 * qs + wd = tauZ P) (hwd : 0 ≤ wd ∧ wd < 343) (sz : Nat) : MMi l yX3_missing (.code yX3_missing cX3_missing 4 (some .int)) 2 0 0 [.ref mm, .int (iI a), .int (iI b)] D cI cJ [(mm, .inr (3, [.int (iI th), .int (iI C), .int (iI R), .int (iI lim), .int (iI np), .ref ac, .ref ar, .int (iI qb), .int (iI qs), .int (iI wd), .int (iI sm), .ref al, .ref aq, .ref ab])), (ac, .inl (cI, 3, .inl (aI gc))), (ar, .inl (cI, 3, .inl (aI gr))), (al, .inl (cI, 16807, .inl (aI gl)))] sz (fun (r : Int) (u : Int) => (u = 1 ∧ ¬ (0 ≤ a ∧ a < C ∧ 0 ≤ b ∧ b < R)) ∨ (u = 0 ∧ (0 ≤ a ∧ a < C ∧ 0 ≤ b ∧ b < R) ∧ ((lsZ L (a * 7 + b) = -1 ∧ r = -1) ∨ (¬ lsZ L (a * 7 + b) = -1 ∧ ((lim < lsZ L (a * 7 + b) ∧ r = lsZ L (a * 7 + b) - lim) ∨ (lsZ L (a * 7 + b) ≤ lim ∧ r = 0)))))) (fun u : Int => [(mm, .inr (3, [.int (iI u), .int (iI C), .int (iI R), .int (iI lim), .int (iI np), .ref ac, .ref ar, .int (iI qb), .int (iI qs), .int (iI wd), .int (iI sm), .ref al, .ref aq, .ref ab])), (ac, .inl (cI, 3, .inl (aI gc))), (ar, .inl (cI, 3, .inl (aI gr))), (al, .inl (cI, 16807, .inl (aI gl)))]) := by
  obtain ⟨hP0, hP1⟩ := hPb
  obtain ⟨hw0, hw1⟩ := hwd
  have htz := tauZ_of hP0 hP1
  have hqv : qs = P / 343 % 7 * 7 + P / 343 / 7 := by omega
  have hwv : wd = P % 343 := by omega
  obtain ⟨hC1, hC2, hR1, hR2, hp1, hp2, -, -⟩ := id hM
  have hlb := lsN_b2 hL.2.1 (a * 7 + b) 343
  rw [show lsN L (a * 7 + b) 343 = lsZ L (a * 7 + b) from rfl] at hlb
  refine MM_of (Qc := fun A => QMi D A (fun (r : Int) (u : Int) => (u = 1 ∧ ¬ (0 ≤ a ∧ a < C ∧ 0 ≤ b ∧ b < R)) ∨ (u = 0 ∧ (0 ≤ a ∧ a < C ∧ 0 ≤ b ∧ b < R) ∧ ((lsZ L (a * 7 + b) = -1 ∧ r = -1) ∨ (¬ lsZ L (a * 7 + b) = -1 ∧ ((lim < lsZ L (a * 7 + b) ∧ r = lsZ L (a * 7 + b) - lim) ∨ (lsZ L (a * 7 + b) ≤ lim ∧ r = 0)))))) (fun u : Int => [(mm, .inr (3, [.int (iI u), .int (iI C), .int (iI R), .int (iI lim), .int (iI np), .ref ac, .ref ar, .int (iI qb), .int (iI qs), .int (iI wd), .int (iI sm), .ref al, .ref aq, .ref ab])), (ac, .inl (cI, 3, .inl (aI gc))), (ar, .inl (cI, 3, .inl (aI gr))), (al, .inl (cI, 16807, .inl (aI gl)))])) (by decide) rfl (Nat.le_of_ble_eq_true rfl) (fun p e s m below meth c ls A hx hb hr hts hown hlk hml hin hK hP hD hA hS hl => ?_)
  have hl : lv_has ls 4 [(0, .ref mm), (1, .int (iI a)), (2, .int (iI b))] := hl
  refine lv_aload_n hx hb dX3_missing_0 rfl (lv_at hl 0 rfl) ?_
  refine lv_aload_n hx hb dX3_missing_1 rfl (lv_at hl 0 rfl) ?_
  refine lv_iload_n hx hb dX3_missing_2 rfl (lv_at hl 1 rfl) ?_
  refine lv_iload_n hx hb dX3_missing_3 rfl (lv_at hl 2 rfl) ?_
  refine zc_V (As := [.int (iI a), .int (iI b)]) (rest := [.ref mm]) (ws := [(mm, .inr (3, [.int (iI th), .int (iI C), .int (iI R), .int (iI lim), .int (iI np), .ref ac, .ref ar, .int (iI qb), .int (iI qs), .int (iI wd), .int (iI sm), .ref al, .ref aq, .ref ab])), (ac, .inl (cI, 3, .inl (aI gc))), (ar, .inl (cI, 3, .inl (aI gr))), (al, .inl (cI, 16807, .inl (aI gl)))]) (n := 2) hx hb (hml.trans hl.1.symm) hts hown hK hP (c_X3_isSquare l D cI cJ mm ac ar al aq ab th C R lim np qb qs wd sm gc gr N a b hM (by omega) (by omega) (by omega) (by omega)) (gd_V q_493 q_495 q_1016 q_6 q_496) (by decide +kernel) rfl ⟨Nat.le_of_ble_eq_true rfl, Nat.le_of_ble_eq_true rfl⟩ ⟨Nat.le_of_ble_eq_true rfl, Nat.le_of_ble_eq_true rfl⟩ [0, 1, 2] rfl 0 (ci := 3) rfl rfl rfl rfl (Nat.le_of_ble_eq_true rfl) dX3_missing_4 (fun r_1 hr_1 => ?_)
  refine zv_if_eq hx hb dX3_missing_7 (tgt := 14) (by decide) ⟨by omega, by omega⟩ (fun c_2 => ?_) (fun c_2 => ?_)
  · refine zv_iconst hx hb dX3_missing_14 ?_
    refine zm_Vi (As := [.int (iI 1)]) (rest := []) (ws := [(mm, .inr (3, [.int (iI th), .int (iI C), .int (iI R), .int (iI lim), .int (iI np), .ref ac, .ref ar, .int (iI qb), .int (iI qs), .int (iI wd), .int (iI sm), .ref al, .ref aq, .ref ab])), (ac, .inl (cI, 3, .inl (aI gc))), (ar, .inl (cI, 3, .inl (aI gr))), (al, .inl (cI, 16807, .inl (aI gl)))]) (wr := [(ac, .inl (cI, 3, .inl (aI gc))), (ar, .inl (cI, 3, .inl (aI gr))), (al, .inl (cI, 16807, .inl (aI gl)))]) (n := 1) hx hb (hml.trans hl.1.symm) hts hown hK hP hD hS hA (c_X3_holds l D cI cJ mm ac ar al aq ab th C R lim np qb qs wd sm 1 (by omega) (by omega) _) (gd_V q_577 q_579 q_1022 q_6 q_580) (by decide +kernel) rfl ⟨Nat.le_of_ble_eq_true rfl, Nat.le_of_ble_eq_true rfl⟩ ⟨Nat.le_of_ble_eq_true rfl, Nat.le_of_ble_eq_true rfl⟩ [0] [1, 2, 3] rfl rfl (by decide) (by decide) (by decide) 0 (ci := 3) rfl rfl rfl rfl (Nat.le_of_ble_eq_true rfl) dX3_missing_15 (fun r_4 u H locs hq_3 hP hD hS => ?_)
    have hP := hP.sub (ws' := [(mm, .inr (3, [.int (iI 1), .int (iI C), .int (iI R), .int (iI lim), .int (iI np), .ref ac, .ref ar, .int (iI qb), .int (iI qs), .int (iI wd), .int (iI sm), .ref al, .ref aq, .ref ab])), (ac, .inl (cI, 3, .inl (aI gc))), (ar, .inl (cI, 3, .inl (aI gr))), (al, .inl (cI, 16807, .inl (aI gl)))]) [3, 0, 1, 2] rfl
    have hD := hD.sub (ws' := [(mm, .inr (3, [.int (iI 1), .int (iI C), .int (iI R), .int (iI lim), .int (iI np), .ref ac, .ref ar, .int (iI qb), .int (iI qs), .int (iI wd), .int (iI sm), .ref al, .ref aq, .ref ab])), (ac, .inl (cI, 3, .inl (aI gc))), (ar, .inl (cI, 3, .inl (aI gr))), (al, .inl (cI, 16807, .inl (aI gl)))]) [3, 0, 1, 2] (by decide) rfl
    try dsimp only at hq_3
    refine zv_if_ne hx hb dX3_missing_18 (tgt := 23) (by decide) ⟨by omega, by omega⟩ (fun c_5 => by exfalso; omega) (fun c_5 => ?_)
    refine zv_iconst hx hb dX3_missing_21 ?_
    exact MM_iret (1) hx hb hr hlk hP hD hS (Nat.le_of_ble_eq_true rfl) (Nat.le_of_ble_eq_true rfl) dX3_missing_22 (by omega)
  · refine zv_iconst hx hb dX3_missing_10 ?_
    refine lv_goto (tgt := 15) hx hb dX3_missing_11 (by decide) ?_
    refine zm_Vi (As := [.int (iI 0)]) (rest := []) (ws := [(mm, .inr (3, [.int (iI th), .int (iI C), .int (iI R), .int (iI lim), .int (iI np), .ref ac, .ref ar, .int (iI qb), .int (iI qs), .int (iI wd), .int (iI sm), .ref al, .ref aq, .ref ab])), (ac, .inl (cI, 3, .inl (aI gc))), (ar, .inl (cI, 3, .inl (aI gr))), (al, .inl (cI, 16807, .inl (aI gl)))]) (wr := [(ac, .inl (cI, 3, .inl (aI gc))), (ar, .inl (cI, 3, .inl (aI gr))), (al, .inl (cI, 16807, .inl (aI gl)))]) (n := 1) hx hb (hml.trans hl.1.symm) hts hown hK hP hD hS hA (c_X3_holds l D cI cJ mm ac ar al aq ab th C R lim np qb qs wd sm 0 (by omega) (by omega) _) (gd_V q_577 q_579 q_1022 q_6 q_580) (by decide +kernel) rfl ⟨Nat.le_of_ble_eq_true rfl, Nat.le_of_ble_eq_true rfl⟩ ⟨Nat.le_of_ble_eq_true rfl, Nat.le_of_ble_eq_true rfl⟩ [0] [1, 2, 3] rfl rfl (by decide) (by decide) (by decide) 0 (ci := 3) rfl rfl rfl rfl (Nat.le_of_ble_eq_true rfl) dX3_missing_15 (fun r_7 u H locs hq_6 hP hD hS => ?_)
    have hP := hP.sub (ws' := [(mm, .inr (3, [.int (iI 0), .int (iI C), .int (iI R), .int (iI lim), .int (iI np), .ref ac, .ref ar, .int (iI qb), .int (iI qs), .int (iI wd), .int (iI sm), .ref al, .ref aq, .ref ab])), (ac, .inl (cI, 3, .inl (aI gc))), (ar, .inl (cI, 3, .inl (aI gr))), (al, .inl (cI, 16807, .inl (aI gl)))]) [3, 0, 1, 2] rfl
    have hD := hD.sub (ws' := [(mm, .inr (3, [.int (iI 0), .int (iI C), .int (iI R), .int (iI lim), .int (iI np), .ref ac, .ref ar, .int (iI qb), .int (iI qs), .int (iI wd), .int (iI sm), .ref al, .ref aq, .ref ab])), (ac, .inl (cI, 3, .inl (aI gc))), (ar, .inl (cI, 3, .inl (aI gr))), (al, .inl (cI, 16807, .inl (aI gl)))]) [3, 0, 1, 2] (by decide) rfl
    try dsimp only at hq_6
    refine zv_if_ne hx hb dX3_missing_18 (tgt := 23) (by decide) ⟨by omega, by omega⟩ (fun c_8 => ?_) (fun c_8 => by exfalso; omega)
    refine lv_aload_n hx hb dX3_missing_23 rfl (lv_at hl 0 rfl) ?_
    refine lv_iload_n hx hb dX3_missing_24 rfl (lv_at hl 1 rfl) ?_
    refine lv_iload_n hx hb dX3_missing_25 rfl (lv_at hl 2 rfl) ?_
    refine zc_S (As := [.int (iI a), .int (iI b)]) (rest := [.ref mm]) (ws := [(mm, .inr (3, [.int (iI 0), .int (iI C), .int (iI R), .int (iI lim), .int (iI np), .ref ac, .ref ar, .int (iI qb), .int (iI qs), .int (iI wd), .int (iI sm), .ref al, .ref aq, .ref ab])), (ac, .inl (cI, 3, .inl (aI gc))), (ar, .inl (cI, 3, .inl (aI gr))), (al, .inl (cI, 16807, .inl (aI gl)))]) (n := 2) hx hb (hml.trans hl.1.symm) hts hown hK hP (c_X3_squareOf l D cI cJ a b) (gd_S q_500 q_501 q_6 q_502) (by decide +kernel) rfl ⟨Nat.le_of_ble_eq_true rfl, Nat.le_of_ble_eq_true rfl⟩ ⟨Nat.le_of_ble_eq_true rfl, Nat.le_of_ble_eq_true rfl⟩ [] rfl rfl (Nat.le_of_ble_eq_true rfl) dX3_missing_26 (fun r_9 hr_9 => ?_)
    subst r_9
    refine zc_V (As := [.int (iI (7 * b + a))]) (rest := []) (ws := [(mm, .inr (3, [.int (iI 0), .int (iI C), .int (iI R), .int (iI lim), .int (iI np), .ref ac, .ref ar, .int (iI qb), .int (iI qs), .int (iI wd), .int (iI sm), .ref al, .ref aq, .ref ab])), (ac, .inl (cI, 3, .inl (aI gc))), (ar, .inl (cI, 3, .inl (aI gr))), (al, .inl (cI, 16807, .inl (aI gl)))]) (n := 1) hx hb (hml.trans hl.1.symm) hts hown hK hP (c_X3_leastOf l D cI cJ mm ac ar al aq ab 0 C R lim np qb qs wd sm gc gr gl N L (7 * b + a) hM hL hlm (by omega) (by omega)) (gd_V q_664 q_666 q_1028 q_6 q_667) (by decide +kernel) rfl ⟨Nat.le_of_ble_eq_true rfl, Nat.le_of_ble_eq_true rfl⟩ ⟨Nat.le_of_ble_eq_true rfl, Nat.le_of_ble_eq_true rfl⟩ [0, 1, 2, 3] rfl 0 (ci := 3) rfl rfl rfl rfl (Nat.le_of_ble_eq_true rfl) dX3_missing_29 (fun r_10 hr_10 => ?_)
    subst r_10
    refine zv_top (y := lsZ L (a * 7 + b)) (by rw [show (7 * b + a) % 7 * 7 + (7 * b + a) / 7 = a * 7 + b by omega]) ?_
    refine lv_istore_n (lv' := [(3, .int (iI (lsZ L (a * 7 + b)))), (0, .ref mm), (1, .int (iI a)), (2, .int (iI b))]) hx hb dX3_missing_32 rfl hl (by decide) rfl (fun ls hl => ?_)
    refine lv_iload_n hx hb dX3_missing_33 rfl (lv_at hl 0 rfl) ?_
    refine zv_iconst hx hb dX3_missing_34 ?_
    refine zv_icmp_eq hx hb dX3_missing_35 (tgt := 46) (by decide) ⟨by omega, by omega⟩ ⟨by omega, by omega⟩ (fun c_11 => ?_) (fun c_11 => ?_)
    · refine lv_iload_n hx hb dX3_missing_46 rfl (lv_at hl 0 rfl) ?_
      refine lv_iload_n hx hb dX3_missing_47 rfl (lv_at hl 0 rfl) ?_
      refine zv_iconst hx hb dX3_missing_48 ?_
      refine zv_icmp_ne hx hb dX3_missing_49 (tgt := 56) (by decide) ⟨by omega, by omega⟩ ⟨by omega, by omega⟩ (fun c_12 => ?_) (fun c_12 => ?_)
      · refine lv_aload_n hx hb dX3_missing_56 rfl (lv_at hl 1 rfl) ?_
        refine va_get (D := D) (ci := 3) (v := .int (iI lim)) (C := RX3) (T := TX3) (N := 14) hx hb hts uX3 hown hK.1 hP 0 rfl rfl 3 (by decide) (hts _ q_529) (fun _ h9 => h9) rfl dX3_missing_57 ?_
        refine zv_isub hx hb dX3_missing_60 ?_
        refine lv_goto (tgt := 65) hx hb dX3_missing_61 (by decide) ?_
        exact MM_iret (0) hx hb hr hlk hP hD hS (Nat.le_of_ble_eq_true rfl) (Nat.le_of_ble_eq_true rfl) dX3_missing_65 (by omega)
      · refine zv_iconst hx hb dX3_missing_52 ?_
        refine lv_goto (tgt := 60) hx hb dX3_missing_53 (by decide) ?_
        refine zv_isub hx hb dX3_missing_60 ?_
        refine lv_goto (tgt := 65) hx hb dX3_missing_61 (by decide) ?_
        exact MM_iret (0) hx hb hr hlk hP hD hS (Nat.le_of_ble_eq_true rfl) (Nat.le_of_ble_eq_true rfl) dX3_missing_65 (by omega)
    · refine lv_iload_n hx hb dX3_missing_38 rfl (lv_at hl 0 rfl) ?_
      refine lv_aload_n hx hb dX3_missing_39 rfl (lv_at hl 1 rfl) ?_
      refine va_get (D := D) (ci := 3) (v := .int (iI lim)) (C := RX3) (T := TX3) (N := 14) hx hb hts uX3 hown hK.1 hP 0 rfl rfl 3 (by decide) (hts _ q_529) (fun _ h9 => h9) rfl dX3_missing_40 ?_
      refine zv_icmp_le hx hb dX3_missing_43 (tgt := 64) (by decide) ⟨by omega, by omega⟩ ⟨by omega, by omega⟩ (fun c_13 => ?_) (fun c_13 => ?_)
      · refine zv_iconst hx hb dX3_missing_64 ?_
        exact MM_iret (0) hx hb hr hlk hP hD hS (Nat.le_of_ble_eq_true rfl) (Nat.le_of_ble_eq_true rfl) dX3_missing_65 (by omega)
      · refine lv_iload_n hx hb dX3_missing_46 rfl (lv_at hl 0 rfl) ?_
        refine lv_iload_n hx hb dX3_missing_47 rfl (lv_at hl 0 rfl) ?_
        refine zv_iconst hx hb dX3_missing_48 ?_
        refine zv_icmp_ne hx hb dX3_missing_49 (tgt := 56) (by decide) ⟨by omega, by omega⟩ ⟨by omega, by omega⟩ (fun c_14 => ?_) (fun c_14 => ?_)
        · refine lv_aload_n hx hb dX3_missing_56 rfl (lv_at hl 1 rfl) ?_
          refine va_get (D := D) (ci := 3) (v := .int (iI lim)) (C := RX3) (T := TX3) (N := 14) hx hb hts uX3 hown hK.1 hP 0 rfl rfl 3 (by decide) (hts _ q_529) (fun _ h9 => h9) rfl dX3_missing_57 ?_
          refine zv_isub hx hb dX3_missing_60 ?_
          refine lv_goto (tgt := 65) hx hb dX3_missing_61 (by decide) ?_
          exact MM_iret (0) hx hb hr hlk hP hD hS (Nat.le_of_ble_eq_true rfl) (Nat.le_of_ble_eq_true rfl) dX3_missing_65 (by omega)
        · refine zv_iconst hx hb dX3_missing_52 ?_
          refine lv_goto (tgt := 60) hx hb dX3_missing_53 (by decide) ?_
          refine zv_isub hx hb dX3_missing_60 ?_
          refine lv_goto (tgt := 65) hx hb dX3_missing_61 (by decide) ?_
          exact MM_iret (0) hx hb hr hlk hP hD hS (Nat.le_of_ble_eq_true rfl) (Nat.le_of_ble_eq_true rfl) dX3_missing_65 (by omega)
set_option maxRecDepth 100000 in
set_option maxHeartbeats 4000000 in
theorem c_X3_words (l : Launch) (D : va_G) (cI cJ : ClassId) (mm ac ar al aq ab : Nat) (th C R lim np qb qs wd sm : Int) (gc gr gl : Nat → Int) (N L : Int → Int) (P : Int) (a b : Int) (hM : MdOK C R np N gc gr) (hL : MLen L gl) (hlm : 1 ≤ lim ∧ lim ≤ 60) (ha1 : -2147483648 ≤ a) (ha2 : a < 2147483648) (hb1 : -2147483648 ≤ b) (hb2 : b < 2147483648) (hPb : 0 ≤ P ∧ P < 16807) (hqs : 343 * qs + wd = tauZ P) (hwd : 0 ≤ wd ∧ wd < 343) (sz : Nat) : MMi l yX3_words (.code yX3_words cX3_words 6 (some .int)) 2 0 0 [.ref mm, .int (iI a), .int (iI b)] D cI cJ [(mm, .inr (3, [.int (iI th), .int (iI C), .int (iI R), .int (iI lim), .int (iI np), .ref ac, .ref ar, .int (iI qb), .int (iI qs), .int (iI wd), .int (iI sm), .ref al, .ref aq, .ref ab])), (ac, .inl (cI, 3, .inl (aI gc))), (ar, .inl (cI, 3, .inl (aI gr))), (al, .inl (cI, 16807, .inl (aI gl)))] sz (fun (r : Int) (u : Int) => (u = 1 ∧ ¬ (0 ≤ a ∧ a < C ∧ 0 ≤ b ∧ b < R)) ∨ (u = 0 ∧ (0 ≤ a ∧ a < C ∧ 0 ≤ b ∧ b < R) ∧ r = wdN L lim (a * 7 + b) 343)) (fun u : Int => [(mm, .inr (3, [.int (iI u), .int (iI C), .int (iI R), .int (iI lim), .int (iI np), .ref ac, .ref ar, .int (iI qb), .int (iI qs), .int (iI wd), .int (iI sm), .ref al, .ref aq, .ref ab])), (ac, .inl (cI, 3, .inl (aI gc))), (ar, .inl (cI, 3, .inl (aI gr))), (al, .inl (cI, 16807, .inl (aI gl)))]) := by
  obtain ⟨hP0, hP1⟩ := hPb
  obtain ⟨hw0, hw1⟩ := hwd
  have htz := tauZ_of hP0 hP1
  have hqv : qs = P / 343 % 7 * 7 + P / 343 / 7 := by omega
  have hwv : wd = P % 343 := by omega
  obtain ⟨hC1, hC2, hR1, hR2, hp1, hp2, -, -⟩ := id hM
  refine MM_of (Qc := fun A => QMi D A (fun (r : Int) (u : Int) => (u = 1 ∧ ¬ (0 ≤ a ∧ a < C ∧ 0 ≤ b ∧ b < R)) ∨ (u = 0 ∧ (0 ≤ a ∧ a < C ∧ 0 ≤ b ∧ b < R) ∧ r = wdN L lim (a * 7 + b) 343)) (fun u : Int => [(mm, .inr (3, [.int (iI u), .int (iI C), .int (iI R), .int (iI lim), .int (iI np), .ref ac, .ref ar, .int (iI qb), .int (iI qs), .int (iI wd), .int (iI sm), .ref al, .ref aq, .ref ab])), (ac, .inl (cI, 3, .inl (aI gc))), (ar, .inl (cI, 3, .inl (aI gr))), (al, .inl (cI, 16807, .inl (aI gl)))])) (by decide) rfl (Nat.le_of_ble_eq_true rfl) (fun p e s m below meth c ls A hx hb hr hts hown hlk hml hin hK hP hD hA hS hl => ?_)
  have hl : lv_has ls 6 [(0, .ref mm), (1, .int (iI a)), (2, .int (iI b))] := hl
  refine lv_aload_n hx hb dX3_words_0 rfl (lv_at hl 0 rfl) ?_
  refine lv_aload_n hx hb dX3_words_1 rfl (lv_at hl 0 rfl) ?_
  refine lv_iload_n hx hb dX3_words_2 rfl (lv_at hl 1 rfl) ?_
  refine lv_iload_n hx hb dX3_words_3 rfl (lv_at hl 2 rfl) ?_
  refine zc_V (As := [.int (iI a), .int (iI b)]) (rest := [.ref mm]) (ws := [(mm, .inr (3, [.int (iI th), .int (iI C), .int (iI R), .int (iI lim), .int (iI np), .ref ac, .ref ar, .int (iI qb), .int (iI qs), .int (iI wd), .int (iI sm), .ref al, .ref aq, .ref ab])), (ac, .inl (cI, 3, .inl (aI gc))), (ar, .inl (cI, 3, .inl (aI gr))), (al, .inl (cI, 16807, .inl (aI gl)))]) (n := 2) hx hb (hml.trans hl.1.symm) hts hown hK hP (c_X3_isSquare l D cI cJ mm ac ar al aq ab th C R lim np qb qs wd sm gc gr N a b hM (by omega) (by omega) (by omega) (by omega)) (gd_V q_493 q_495 q_1016 q_6 q_496) (by decide +kernel) rfl ⟨Nat.le_of_ble_eq_true rfl, Nat.le_of_ble_eq_true rfl⟩ ⟨Nat.le_of_ble_eq_true rfl, Nat.le_of_ble_eq_true rfl⟩ [0, 1, 2] rfl 0 (ci := 3) rfl rfl rfl rfl (Nat.le_of_ble_eq_true rfl) dX3_words_4 (fun r_1 hr_1 => ?_)
  refine zv_if_eq hx hb dX3_words_7 (tgt := 14) (by decide) ⟨by omega, by omega⟩ (fun c_2 => ?_) (fun c_2 => ?_)
  · refine zv_iconst hx hb dX3_words_14 ?_
    refine zm_Vi (As := [.int (iI 1)]) (rest := []) (ws := [(mm, .inr (3, [.int (iI th), .int (iI C), .int (iI R), .int (iI lim), .int (iI np), .ref ac, .ref ar, .int (iI qb), .int (iI qs), .int (iI wd), .int (iI sm), .ref al, .ref aq, .ref ab])), (ac, .inl (cI, 3, .inl (aI gc))), (ar, .inl (cI, 3, .inl (aI gr))), (al, .inl (cI, 16807, .inl (aI gl)))]) (wr := [(ac, .inl (cI, 3, .inl (aI gc))), (ar, .inl (cI, 3, .inl (aI gr))), (al, .inl (cI, 16807, .inl (aI gl)))]) (n := 1) hx hb (hml.trans hl.1.symm) hts hown hK hP hD hS hA (c_X3_holds l D cI cJ mm ac ar al aq ab th C R lim np qb qs wd sm 1 (by omega) (by omega) _) (gd_V q_577 q_579 q_1022 q_6 q_580) (by decide +kernel) rfl ⟨Nat.le_of_ble_eq_true rfl, Nat.le_of_ble_eq_true rfl⟩ ⟨Nat.le_of_ble_eq_true rfl, Nat.le_of_ble_eq_true rfl⟩ [0] [1, 2, 3] rfl rfl (by decide) (by decide) (by decide) 0 (ci := 3) rfl rfl rfl rfl (Nat.le_of_ble_eq_true rfl) dX3_words_15 (fun r_4 u H locs hq_3 hP hD hS => ?_)
    have hP := hP.sub (ws' := [(mm, .inr (3, [.int (iI 1), .int (iI C), .int (iI R), .int (iI lim), .int (iI np), .ref ac, .ref ar, .int (iI qb), .int (iI qs), .int (iI wd), .int (iI sm), .ref al, .ref aq, .ref ab])), (ac, .inl (cI, 3, .inl (aI gc))), (ar, .inl (cI, 3, .inl (aI gr))), (al, .inl (cI, 16807, .inl (aI gl)))]) [3, 0, 1, 2] rfl
    have hD := hD.sub (ws' := [(mm, .inr (3, [.int (iI 1), .int (iI C), .int (iI R), .int (iI lim), .int (iI np), .ref ac, .ref ar, .int (iI qb), .int (iI qs), .int (iI wd), .int (iI sm), .ref al, .ref aq, .ref ab])), (ac, .inl (cI, 3, .inl (aI gc))), (ar, .inl (cI, 3, .inl (aI gr))), (al, .inl (cI, 16807, .inl (aI gl)))]) [3, 0, 1, 2] (by decide) rfl
    try dsimp only at hq_3
    refine zv_if_ne hx hb dX3_words_18 (tgt := 23) (by decide) ⟨by omega, by omega⟩ (fun c_5 => by exfalso; omega) (fun c_5 => ?_)
    refine zv_iconst hx hb dX3_words_21 ?_
    exact MM_iret (1) hx hb hr hlk hP hD hS (Nat.le_of_ble_eq_true rfl) (Nat.le_of_ble_eq_true rfl) dX3_words_22 (by omega)
  · refine zv_iconst hx hb dX3_words_10 ?_
    refine lv_goto (tgt := 15) hx hb dX3_words_11 (by decide) ?_
    refine zm_Vi (As := [.int (iI 0)]) (rest := []) (ws := [(mm, .inr (3, [.int (iI th), .int (iI C), .int (iI R), .int (iI lim), .int (iI np), .ref ac, .ref ar, .int (iI qb), .int (iI qs), .int (iI wd), .int (iI sm), .ref al, .ref aq, .ref ab])), (ac, .inl (cI, 3, .inl (aI gc))), (ar, .inl (cI, 3, .inl (aI gr))), (al, .inl (cI, 16807, .inl (aI gl)))]) (wr := [(ac, .inl (cI, 3, .inl (aI gc))), (ar, .inl (cI, 3, .inl (aI gr))), (al, .inl (cI, 16807, .inl (aI gl)))]) (n := 1) hx hb (hml.trans hl.1.symm) hts hown hK hP hD hS hA (c_X3_holds l D cI cJ mm ac ar al aq ab th C R lim np qb qs wd sm 0 (by omega) (by omega) _) (gd_V q_577 q_579 q_1022 q_6 q_580) (by decide +kernel) rfl ⟨Nat.le_of_ble_eq_true rfl, Nat.le_of_ble_eq_true rfl⟩ ⟨Nat.le_of_ble_eq_true rfl, Nat.le_of_ble_eq_true rfl⟩ [0] [1, 2, 3] rfl rfl (by decide) (by decide) (by decide) 0 (ci := 3) rfl rfl rfl rfl (Nat.le_of_ble_eq_true rfl) dX3_words_15 (fun r_7 u H locs hq_6 hP hD hS => ?_)
    have hP := hP.sub (ws' := [(mm, .inr (3, [.int (iI 0), .int (iI C), .int (iI R), .int (iI lim), .int (iI np), .ref ac, .ref ar, .int (iI qb), .int (iI qs), .int (iI wd), .int (iI sm), .ref al, .ref aq, .ref ab])), (ac, .inl (cI, 3, .inl (aI gc))), (ar, .inl (cI, 3, .inl (aI gr))), (al, .inl (cI, 16807, .inl (aI gl)))]) [3, 0, 1, 2] rfl
    have hD := hD.sub (ws' := [(mm, .inr (3, [.int (iI 0), .int (iI C), .int (iI R), .int (iI lim), .int (iI np), .ref ac, .ref ar, .int (iI qb), .int (iI qs), .int (iI wd), .int (iI sm), .ref al, .ref aq, .ref ab])), (ac, .inl (cI, 3, .inl (aI gc))), (ar, .inl (cI, 3, .inl (aI gr))), (al, .inl (cI, 16807, .inl (aI gl)))]) [3, 0, 1, 2] (by decide) rfl
    try dsimp only at hq_6
    refine zv_if_ne hx hb dX3_words_18 (tgt := 23) (by decide) ⟨by omega, by omega⟩ (fun c_8 => ?_) (fun c_8 => by exfalso; omega)
    refine zv_iconst hx hb dX3_words_23 ?_
    refine lv_istore_n (lv' := [(3, .int (iI 0)), (0, .ref mm), (1, .int (iI a)), (2, .int (iI b))]) hx hb dX3_words_24 rfl hl (by decide) rfl (fun ls hl => ?_)
    refine zv_sipush hx hb dX3_words_25 (by decide) ?_
    refine lv_iload_n hx hb dX3_words_28 rfl (lv_at hl 2 rfl) ?_
    refine lv_iload_n hx hb dX3_words_29 rfl (lv_at hl 3 rfl) ?_
    refine zc_S (As := [.int (iI a), .int (iI b)]) (rest := [.int (iI 343)]) (ws := [(mm, .inr (3, [.int (iI 0), .int (iI C), .int (iI R), .int (iI lim), .int (iI np), .ref ac, .ref ar, .int (iI qb), .int (iI qs), .int (iI wd), .int (iI sm), .ref al, .ref aq, .ref ab])), (ac, .inl (cI, 3, .inl (aI gc))), (ar, .inl (cI, 3, .inl (aI gr))), (al, .inl (cI, 16807, .inl (aI gl)))]) (n := 2) hx hb (hml.trans hl.1.symm) hts hown hK hP (c_X3_squareOf l D cI cJ a b) (gd_S q_500 q_501 q_6 q_502) (by decide +kernel) rfl ⟨Nat.le_of_ble_eq_true rfl, Nat.le_of_ble_eq_true rfl⟩ ⟨Nat.le_of_ble_eq_true rfl, Nat.le_of_ble_eq_true rfl⟩ [] rfl rfl (Nat.le_of_ble_eq_true rfl) dX3_words_30 (fun r_9 hr_9 => ?_)
    subst r_9
    refine zv_imul hx hb dX3_words_33 ?_
    refine lv_istore (lv' := [(4, .int (iI (343 * (7 * b + a)))), (3, .int (iI 0)), (0, .ref mm), (1, .int (iI a)), (2, .int (iI b))]) hx hb dX3_words_34 hl (by decide) rfl (fun ls hl => ?_)
    refine lv_iload hx hb dX3_words_36 (lv_at hl 0 rfl) ?_
    refine lv_istore (lv' := [(5, .int (iI (343 * (7 * b + a)))), (4, .int (iI (343 * (7 * b + a)))), (3, .int (iI 0)), (0, .ref mm), (1, .int (iI a)), (2, .int (iI b))]) hx hb dX3_words_38 hl (by decide) rfl (fun ls hl => ?_)
    have loop40 : ∀ (nn : Nat) (u x : Int) (j : Nat), (x = 343 * (7 * b + a) + (j : Int)) → ((j : Int) ≤ 343) → (u = wdN L lim (a * 7 + b) j) → (343 - (j : Int) < (nn : Int)) → ∀ (H : Heap) (locs : List Loc), va_P D vwCl [(mm, .inr (3, [.int (iI 0), .int (iI C), .int (iI R), .int (iI lim), .int (iI np), .ref ac, .ref ar, .int (iI qb), .int (iI qs), .int (iI wd), .int (iI sm), .ref al, .ref aq, .ref ab])), (ac, .inl (cI, 3, .inl (aI gc))), (ar, .inl (cI, 3, .inl (aI gr))), (al, .inl (cI, 16807, .inl (aI gl)))] H → va_D A [(mm, .inr (3, [.int (iI 0), .int (iI C), .int (iI R), .int (iI lim), .int (iI np), .ref ac, .ref ar, .int (iI qb), .int (iI qs), .int (iI wd), .int (iI sm), .ref al, .ref aq, .ref ab])), (ac, .inl (cI, 3, .inl (aI gc))), (ar, .inl (cI, 3, .inl (aI gr))), (al, .inl (cI, 16807, .inl (aI gl)))] → va_S A s.heap H locs → ∀ ls : Array Slot, lv_has ls 6 [(0, .ref mm), (1, .int (iI a)), (2, .int (iI b)), (3, .int (iI u)), (4, .int (iI (343 * (7 * b + a)))), (5, .int (iI x))] → W p l e (rmM 2 0 0) s m [.ref mm, .int (iI a), .int (iI b)].toArray below meth c H locs 0 0 (MQ below (QMi D A (fun (r : Int) (u : Int) => (u = 1 ∧ ¬ (0 ≤ a ∧ a < C ∧ 0 ≤ b ∧ b < R)) ∨ (u = 0 ∧ (0 ≤ a ∧ a < C ∧ 0 ≤ b ∧ b < R) ∧ r = wdN L lim (a * 7 + b) 343)) (fun u : Int => [(mm, .inr (3, [.int (iI u), .int (iI C), .int (iI R), .int (iI lim), .int (iI np), .ref ac, .ref ar, .int (iI qb), .int (iI qs), .int (iI wd), .int (iI sm), .ref al, .ref aq, .ref ab])), (ac, .inl (cI, 3, .inl (aI gc))), (ar, .inl (cI, 3, .inl (aI gr))), (al, .inl (cI, 16807, .inl (aI gl)))])) [.ref mm, .int (iI a), .int (iI b)].toArray s 0 0 A) (F0 m 40 ls []) := by
      intro nn
      induction nn with
      | zero => intro u x j hxj hj hu hms; exfalso; omega
      | succ nn ih40 =>
        intro u x j hxj hj hu hms H locs hP hD hS ls hl
        have hub := wdN_b L lim (a * 7 + b) j
        rw [← hu] at hub
        have htj : (j : Int) < 343 → tauZ x = (a * 7 + b) * 343 + (j : Int) := fun h => by unfold tauZ; omega
        refine lv_iload hx hb dX3_words_40 (lv_at hl 5 rfl) ?_
        refine lv_iload hx hb dX3_words_42 (lv_at hl 4 rfl) ?_
        refine zv_sipush hx hb dX3_words_44 (by decide) ?_
        refine zv_iadd hx hb dX3_words_47 ?_
        refine zv_icmp_ge hx hb dX3_words_48 (tgt := 74) (by decide) ⟨by omega, by omega⟩ ⟨by omega, by omega⟩ (fun c_10 => ?_) (fun c_10 => ?_)
        · refine lv_iload_n hx hb dX3_words_74 rfl (lv_at hl 3 rfl) ?_
          exact MM_iret (0) hx hb hr hlk hP hD hS (Nat.le_of_ble_eq_true rfl) (Nat.le_of_ble_eq_true rfl) dX3_words_75 (by exact Or.inr ⟨rfl, by omega, by rw [hu, show j = 343 by omega]⟩)
        · refine lv_iload_n hx hb dX3_words_51 rfl (lv_at hl 3 rfl) ?_
          refine lv_aload_n hx hb dX3_words_52 rfl (lv_at hl 0 rfl) ?_
          refine lv_iload hx hb dX3_words_53 (lv_at hl 5 rfl) ?_
          refine zc_V (As := [.int (iI x)]) (rest := [.int (iI u)]) (ws := [(mm, .inr (3, [.int (iI 0), .int (iI C), .int (iI R), .int (iI lim), .int (iI np), .ref ac, .ref ar, .int (iI qb), .int (iI qs), .int (iI wd), .int (iI sm), .ref al, .ref aq, .ref ab])), (ac, .inl (cI, 3, .inl (aI gc))), (ar, .inl (cI, 3, .inl (aI gr))), (al, .inl (cI, 16807, .inl (aI gl)))]) (n := 1) hx hb (hml.trans hl.1.symm) hts hown hK hP (c_X3_isAble l D cI cJ mm ac ar al aq ab 0 C R lim np qb qs wd sm gc gr gl N L x hM hL hlm (by omega) (by omega)) (gd_V q_593 q_595 q_1024 q_6 q_596) (by decide +kernel) rfl ⟨Nat.le_of_ble_eq_true rfl, Nat.le_of_ble_eq_true rfl⟩ ⟨Nat.le_of_ble_eq_true rfl, Nat.le_of_ble_eq_true rfl⟩ [0, 1, 2, 3] rfl 0 (ci := 3) rfl rfl rfl rfl (Nat.le_of_ble_eq_true rfl) dX3_words_55 (fun r_11 hr_11 => ?_)
          have hr9 := hr_11
          refine zv_if_eq hx hb dX3_words_58 (tgt := 65) (by decide) ⟨by omega, by omega⟩ (fun c_12 => ?_) (fun c_12 => ?_)
          · refine zv_iconst hx hb dX3_words_65 ?_
            refine zv_iadd hx hb dX3_words_66 ?_
            refine lv_istore_n (lv' := [(3, .int (iI (u + 0))), (0, .ref mm), (1, .int (iI a)), (2, .int (iI b)), (4, .int (iI (343 * (7 * b + a)))), (5, .int (iI x))]) hx hb dX3_words_67 rfl hl (by decide) rfl (fun ls hl => ?_)
            refine zv_iinc (k := 5) (lv' := [(5, .int (iI (x + 1))), (3, .int (iI (u + 0))), (0, .ref mm), (1, .int (iI a)), (2, .int (iI b)), (4, .int (iI (343 * (7 * b + a))))]) hx hb dX3_words_68 hl rfl (by decide) rfl (fun ls hl => ?_)
            refine lv_goto (tgt := 40) hx hb dX3_words_71 (by decide) ?_
            rw [htj (by omega)] at hr9
            exact ih40 (u + 0) (x + 1) (j + 1) (by omega) (by omega) (by unfold wdN; rw [← hu]; first | rw [if_pos (by omega)] | rw [if_neg (by omega)]) (by omega) _ _ hP hD hS ls (lv_sub hl [2, 3, 4, 1, 5, 0] rfl)
          · refine zv_iconst hx hb dX3_words_61 ?_
            refine lv_goto (tgt := 66) hx hb dX3_words_62 (by decide) ?_
            refine zv_iadd hx hb dX3_words_66 ?_
            refine lv_istore_n (lv' := [(3, .int (iI (u + 1))), (0, .ref mm), (1, .int (iI a)), (2, .int (iI b)), (4, .int (iI (343 * (7 * b + a)))), (5, .int (iI x))]) hx hb dX3_words_67 rfl hl (by decide) rfl (fun ls hl => ?_)
            refine zv_iinc (k := 5) (lv' := [(5, .int (iI (x + 1))), (3, .int (iI (u + 1))), (0, .ref mm), (1, .int (iI a)), (2, .int (iI b)), (4, .int (iI (343 * (7 * b + a))))]) hx hb dX3_words_68 hl rfl (by decide) rfl (fun ls hl => ?_)
            refine lv_goto (tgt := 40) hx hb dX3_words_71 (by decide) ?_
            rw [htj (by omega)] at hr9
            exact ih40 (u + 1) (x + 1) (j + 1) (by omega) (by omega) (by unfold wdN; rw [← hu]; first | rw [if_pos (by omega)] | rw [if_neg (by omega)]) (by omega) _ _ hP hD hS ls (lv_sub hl [2, 3, 4, 1, 5, 0] rfl)
    exact loop40 344 0 (343 * (7 * b + a)) 0 (by omega) (by omega) rfl (by omega) _ _ hP hD hS ls (lv_sub hl [3, 4, 5, 2, 1, 0] rfl)
set_option maxRecDepth 100000 in
set_option maxHeartbeats 4000000 in
theorem c_X3_squares (l : Launch) (D : va_G) (cI cJ : ClassId) (mm ac ar al aq ab : Nat) (th C R lim np qb qs wd sm : Int) (gc gr gl : Nat → Int) (N L : Int → Int) (P : Int) (hM : MdOK C R np N gc gr) (hL : MLen L gl) (hlm : 1 ≤ lim ∧ lim ≤ 60) (hPb : 0 ≤ P ∧ P < 16807) (hqs : 343 * qs + wd = tauZ P) (hwd : 0 ≤ wd ∧ wd < 343) (sz : Nat) : MMi l yX3_squares (.code yX3_squares cX3_squares 4 (some .int)) 2 0 0 [.ref mm] D cI cJ [(mm, .inr (3, [.int (iI th), .int (iI C), .int (iI R), .int (iI lim), .int (iI np), .ref ac, .ref ar, .int (iI qb), .int (iI qs), .int (iI wd), .int (iI sm), .ref al, .ref aq, .ref ab])), (ac, .inl (cI, 3, .inl (aI gc))), (ar, .inl (cI, 3, .inl (aI gr))), (al, .inl (cI, 16807, .inl (aI gl)))] sz (fun (r : Int) (u : Unit) => r = sqN L lim 49) (fun u : Unit => [(mm, .inr (3, [.int (iI 0), .int (iI C), .int (iI R), .int (iI lim), .int (iI np), .ref ac, .ref ar, .int (iI qb), .int (iI qs), .int (iI wd), .int (iI sm), .ref al, .ref aq, .ref ab])), (ac, .inl (cI, 3, .inl (aI gc))), (ar, .inl (cI, 3, .inl (aI gr))), (al, .inl (cI, 16807, .inl (aI gl)))]) := by
  obtain ⟨hP0, hP1⟩ := hPb
  obtain ⟨hw0, hw1⟩ := hwd
  have htz := tauZ_of hP0 hP1
  have hqv : qs = P / 343 % 7 * 7 + P / 343 / 7 := by omega
  have hwv : wd = P % 343 := by omega
  obtain ⟨hC1, hC2, hR1, hR2, hp1, hp2, -, -⟩ := id hM
  refine MM_of (Qc := fun A => QMi D A (fun (r : Int) (u : Unit) => r = sqN L lim 49) (fun u : Unit => [(mm, .inr (3, [.int (iI 0), .int (iI C), .int (iI R), .int (iI lim), .int (iI np), .ref ac, .ref ar, .int (iI qb), .int (iI qs), .int (iI wd), .int (iI sm), .ref al, .ref aq, .ref ab])), (ac, .inl (cI, 3, .inl (aI gc))), (ar, .inl (cI, 3, .inl (aI gr))), (al, .inl (cI, 16807, .inl (aI gl)))])) (by decide) rfl (Nat.le_of_ble_eq_true rfl) (fun p e s m below meth c ls A hx hb hr hts hown hlk hml hin hK hP hD hA hS hl => ?_)
  have hl : lv_has ls 4 [(0, .ref mm)] := hl
  refine lv_aload_n hx hb dX3_squares_0 rfl (lv_at hl 0 rfl) ?_
  refine zv_iconst hx hb dX3_squares_1 ?_
  refine va_put (D := D) (ci := 3) (v := .int (iI 0)) (ty := .int) (C := RX3) (T := TX3) (N := 14) hx hb hts uX3 tyX3 tyX3_ok nmX3 hown hK.1 hP hD hS 0 rfl rfl 0 (by decide) (hts _ q_526) (fun _ h9 => h9) rfl (by decide +kernel) rfl rfl (Nat.le_of_ble_eq_true rfl) dX3_squares_2 (fun H locs hP hD hS => ?_)
  have hP : va_P D vwCl [(mm, .inr (3, [.int (iI 0), .int (iI C), .int (iI R), .int (iI lim), .int (iI np), .ref ac, .ref ar, .int (iI qb), .int (iI qs), .int (iI wd), .int (iI sm), .ref al, .ref aq, .ref ab])), (ac, .inl (cI, 3, .inl (aI gc))), (ar, .inl (cI, 3, .inl (aI gr))), (al, .inl (cI, 16807, .inl (aI gl)))] H := hP
  have hD : va_D A [(mm, .inr (3, [.int (iI 0), .int (iI C), .int (iI R), .int (iI lim), .int (iI np), .ref ac, .ref ar, .int (iI qb), .int (iI qs), .int (iI wd), .int (iI sm), .ref al, .ref aq, .ref ab])), (ac, .inl (cI, 3, .inl (aI gc))), (ar, .inl (cI, 3, .inl (aI gr))), (al, .inl (cI, 16807, .inl (aI gl)))] := hD
  refine zv_iconst hx hb dX3_squares_5 ?_
  refine lv_istore_n (lv' := [(1, .int (iI 0)), (0, .ref mm)]) hx hb dX3_squares_6 rfl hl (by decide) rfl (fun ls hl => ?_)
  refine zv_iconst hx hb dX3_squares_7 ?_
  refine lv_istore_n (lv' := [(2, .int (iI 0)), (1, .int (iI 0)), (0, .ref mm)]) hx hb dX3_squares_8 rfl hl (by decide) rfl (fun ls hl => ?_)
  have loop9 : ∀ (nn : Nat) (u i : Int) (j : Nat), (i = (j : Int)) → ((j : Int) ≤ 49) → (u = sqM L lim j) → (49 - (j : Int) < (nn : Int)) → ∀ (H : Heap) (locs : List Loc), va_P D vwCl [(mm, .inr (3, [.int (iI 0), .int (iI C), .int (iI R), .int (iI lim), .int (iI np), .ref ac, .ref ar, .int (iI qb), .int (iI qs), .int (iI wd), .int (iI sm), .ref al, .ref aq, .ref ab])), (ac, .inl (cI, 3, .inl (aI gc))), (ar, .inl (cI, 3, .inl (aI gr))), (al, .inl (cI, 16807, .inl (aI gl)))] H → va_D A [(mm, .inr (3, [.int (iI 0), .int (iI C), .int (iI R), .int (iI lim), .int (iI np), .ref ac, .ref ar, .int (iI qb), .int (iI qs), .int (iI wd), .int (iI sm), .ref al, .ref aq, .ref ab])), (ac, .inl (cI, 3, .inl (aI gc))), (ar, .inl (cI, 3, .inl (aI gr))), (al, .inl (cI, 16807, .inl (aI gl)))] → va_S A s.heap H locs → ∀ ls : Array Slot, lv_has ls 4 [(0, .ref mm), (1, .int (iI u)), (2, .int (iI i))] → W p l e (rmM 2 0 0) s m [.ref mm].toArray below meth c H locs 0 0 (MQ below (QMi D A (fun (r : Int) (u : Unit) => r = sqN L lim 49) (fun u : Unit => [(mm, .inr (3, [.int (iI 0), .int (iI C), .int (iI R), .int (iI lim), .int (iI np), .ref ac, .ref ar, .int (iI qb), .int (iI qs), .int (iI wd), .int (iI sm), .ref al, .ref aq, .ref ab])), (ac, .inl (cI, 3, .inl (aI gc))), (ar, .inl (cI, 3, .inl (aI gr))), (al, .inl (cI, 16807, .inl (aI gl)))])) [.ref mm].toArray s 0 0 A) (F0 m 9 ls []) := by
    intro nn
    induction nn with
    | zero => intro u i j hij hj hu hms; exfalso; omega
    | succ nn ih9 =>
      intro u i j hij hj hu hms H locs hP hD hS ls hl
      have hlb := lsN_b2 hL.2.1 (i % 7 * 7 + i / 7) 343
      rw [show lsN L (i % 7 * 7 + i / 7) 343 = lsZ L (i % 7 * 7 + i / 7) from rfl] at hlb
      refine lv_iload_n hx hb dX3_squares_9 rfl (lv_at hl 2 rfl) ?_
      refine zv_bipush hx hb dX3_squares_10 (by decide) ?_
      refine zv_icmp_ge hx hb dX3_squares_12 (tgt := 48) (by decide) ⟨by omega, by omega⟩ ⟨by omega, by omega⟩ (fun c_1 => ?_) (fun c_1 => ?_)
      · refine lv_iload_n hx hb dX3_squares_48 rfl (lv_at hl 1 rfl) ?_
        exact MM_iret (()) hx hb hr hlk hP hD hS (Nat.le_of_ble_eq_true rfl) (Nat.le_of_ble_eq_true rfl) dX3_squares_49 (by rw [← sqM_sqN, hu, show j = 49 by omega])
      · refine lv_aload_n hx hb dX3_squares_15 rfl (lv_at hl 0 rfl) ?_
        refine lv_iload_n hx hb dX3_squares_16 rfl (lv_at hl 2 rfl) ?_
        refine zc_V (As := [.int (iI i)]) (rest := []) (ws := [(mm, .inr (3, [.int (iI 0), .int (iI C), .int (iI R), .int (iI lim), .int (iI np), .ref ac, .ref ar, .int (iI qb), .int (iI qs), .int (iI wd), .int (iI sm), .ref al, .ref aq, .ref ab])), (ac, .inl (cI, 3, .inl (aI gc))), (ar, .inl (cI, 3, .inl (aI gr))), (al, .inl (cI, 16807, .inl (aI gl)))]) (n := 1) hx hb (hml.trans hl.1.symm) hts hown hK hP (c_X3_leastOf l D cI cJ mm ac ar al aq ab 0 C R lim np qb qs wd sm gc gr gl N L i hM hL hlm (by omega) (by omega)) (gd_V q_664 q_666 q_1028 q_6 q_667) (by decide +kernel) rfl ⟨Nat.le_of_ble_eq_true rfl, Nat.le_of_ble_eq_true rfl⟩ ⟨Nat.le_of_ble_eq_true rfl, Nat.le_of_ble_eq_true rfl⟩ [0, 1, 2, 3] rfl 0 (ci := 3) rfl rfl rfl rfl (Nat.le_of_ble_eq_true rfl) dX3_squares_17 (fun r_2 hr_2 => ?_)
        subst r_2
        refine lv_istore_n (lv' := [(3, .int (iI (lsZ L (i % 7 * 7 + i / 7)))), (0, .ref mm), (1, .int (iI u)), (2, .int (iI i))]) hx hb dX3_squares_20 rfl hl (by decide) rfl (fun ls hl => ?_)
        refine lv_iload_n hx hb dX3_squares_21 rfl (lv_at hl 2 rfl) ?_
        refine lv_iload_n hx hb dX3_squares_22 rfl (lv_at hl 0 rfl) ?_
        refine zv_iconst hx hb dX3_squares_23 ?_
        refine zv_icmp_eq hx hb dX3_squares_24 (tgt := 39) (by decide) ⟨by omega, by omega⟩ ⟨by omega, by omega⟩ (fun c_3 => ?_) (fun c_3 => ?_)
        · refine zv_iconst hx hb dX3_squares_39 ?_
          refine zv_iadd hx hb dX3_squares_40 ?_
          refine lv_istore_n (lv' := [(1, .int (iI (u + 0))), (3, .int (iI (lsZ L (i % 7 * 7 + i / 7)))), (0, .ref mm), (2, .int (iI i))]) hx hb dX3_squares_41 rfl hl (by decide) rfl (fun ls hl => ?_)
          refine zv_iinc (k := 3) (lv' := [(2, .int (iI (i + 1))), (1, .int (iI (u + 0))), (3, .int (iI (lsZ L (i % 7 * 7 + i / 7)))), (0, .ref mm)]) hx hb dX3_squares_42 hl rfl (by decide) rfl (fun ls hl => ?_)
          refine lv_goto (tgt := 9) hx hb dX3_squares_45 (by decide) ?_
          exact ih9 (u + 0) (i + 1) (j + 1) (by omega) (by omega) (by unfold sqM; rw [← hu, ← hij]; first | rw [if_pos (by omega)] | rw [if_neg (by omega)]) (by omega) _ _ hP hD hS ls (lv_sub hl [3, 1, 0] rfl)
        · refine lv_iload_n hx hb dX3_squares_27 rfl (lv_at hl 0 rfl) ?_
          refine lv_aload_n hx hb dX3_squares_28 rfl (lv_at hl 1 rfl) ?_
          refine va_get (D := D) (ci := 3) (v := .int (iI lim)) (C := RX3) (T := TX3) (N := 14) hx hb hts uX3 hown hK.1 hP 0 rfl rfl 3 (by decide) (hts _ q_529) (fun _ h9 => h9) rfl dX3_squares_29 ?_
          refine zv_icmp_gt hx hb dX3_squares_32 (tgt := 39) (by decide) ⟨by omega, by omega⟩ ⟨by omega, by omega⟩ (fun c_4 => ?_) (fun c_4 => ?_)
          · refine zv_iconst hx hb dX3_squares_39 ?_
            refine zv_iadd hx hb dX3_squares_40 ?_
            refine lv_istore_n (lv' := [(1, .int (iI (u + 0))), (3, .int (iI (lsZ L (i % 7 * 7 + i / 7)))), (0, .ref mm), (2, .int (iI i))]) hx hb dX3_squares_41 rfl hl (by decide) rfl (fun ls hl => ?_)
            refine zv_iinc (k := 3) (lv' := [(2, .int (iI (i + 1))), (1, .int (iI (u + 0))), (3, .int (iI (lsZ L (i % 7 * 7 + i / 7)))), (0, .ref mm)]) hx hb dX3_squares_42 hl rfl (by decide) rfl (fun ls hl => ?_)
            refine lv_goto (tgt := 9) hx hb dX3_squares_45 (by decide) ?_
            exact ih9 (u + 0) (i + 1) (j + 1) (by omega) (by omega) (by unfold sqM; rw [← hu, ← hij]; first | rw [if_pos (by omega)] | rw [if_neg (by omega)]) (by omega) _ _ hP hD hS ls (lv_sub hl [3, 1, 0] rfl)
          · refine zv_iconst hx hb dX3_squares_35 ?_
            refine lv_goto (tgt := 40) hx hb dX3_squares_36 (by decide) ?_
            refine zv_iadd hx hb dX3_squares_40 ?_
            refine lv_istore_n (lv' := [(1, .int (iI (u + 1))), (3, .int (iI (lsZ L (i % 7 * 7 + i / 7)))), (0, .ref mm), (2, .int (iI i))]) hx hb dX3_squares_41 rfl hl (by decide) rfl (fun ls hl => ?_)
            refine zv_iinc (k := 3) (lv' := [(2, .int (iI (i + 1))), (1, .int (iI (u + 1))), (3, .int (iI (lsZ L (i % 7 * 7 + i / 7)))), (0, .ref mm)]) hx hb dX3_squares_42 hl rfl (by decide) rfl (fun ls hl => ?_)
            refine lv_goto (tgt := 9) hx hb dX3_squares_45 (by decide) ?_
            exact ih9 (u + 1) (i + 1) (j + 1) (by omega) (by omega) (by unfold sqM; rw [← hu, ← hij]; first | rw [if_pos (by omega)] | rw [if_neg (by omega)]) (by omega) _ _ hP hD hS ls (lv_sub hl [3, 1, 0] rfl)
  exact loop9 50 0 0 0 (by omega) (by omega) rfl (by omega) _ _ hP hD hS ls (lv_sub hl [2, 1, 0] rfl)
