set_option maxRecDepth 100000 in
set_option maxHeartbeats 4000000 in
theorem c_X0_setPillar (l : Launch) (D : va_G) (cI cJ : ClassId) (fl pn : Nat) (C R np : Int) (gn : Nat → Int) (N : Int → Int) (q : Int) (hF : FlOK C R np N gn) (hn1 : np < 3) (hq0 : 0 ≤ q) (hq1 : q < 49) (sz : Nat) : MMi l yX0_setPillar (.code yX0_setPillar cX0_setPillar 3 (some .int)) 1 0 0 [.ref fl, .int (iI q)] D cI cJ [(fl, .inr (0, [.int (iI C), .int (iI R), .ref pn, .int (iI np)])), (pn, .inl (cI, 49, .inl (aI gn)))] sz (fun (r : Int) (u : Int × (Nat → Int)) => r = np ∧ u.1 = np + 1 ∧ u.2 = updZ gn (q).toNat np) (fun u : Int × (Nat → Int) => [(fl, .inr (0, [.int (iI C), .int (iI R), .ref pn, .int (iI u.1)])), (pn, .inl (cI, 49, .inl (aI u.2)))]) := by
  obtain ⟨hC1, hC2, hR1, hR2, hp1, hp2, -, -⟩ := id hF
  refine MM_of (Qc := fun A => QMi D A (fun (r : Int) (u : Int × (Nat → Int)) => r = np ∧ u.1 = np + 1 ∧ u.2 = updZ gn (q).toNat np) (fun u : Int × (Nat → Int) => [(fl, .inr (0, [.int (iI C), .int (iI R), .ref pn, .int (iI u.1)])), (pn, .inl (cI, 49, .inl (aI u.2)))])) (by decide) rfl (Nat.le_of_ble_eq_true rfl) (fun p e s m below meth c ls A hx hb hr hts hown hlk hml hin hK hP hD hA hS hl => ?_)
  have hl : lv_has ls 3 [(0, .ref fl), (1, .int (iI q))] := hl
  refine lv_aload_n hx hb dX0_setPillar_0 rfl (lv_at hl 0 rfl) ?_
  refine zc_V (As := []) (rest := []) (ws := [(fl, .inr (0, [.int (iI C), .int (iI R), .ref pn, .int (iI np)])), (pn, .inl (cI, 49, .inl (aI gn)))]) (n := 0) hx hb (hml.trans hl.1.symm) hts hown hK hP (c_X0_isFull l D cI cJ fl pn C R np gn N hF) (gd_V q_343 q_319 q_320 q_3 q_321) (by decide +kernel) rfl ⟨Nat.le_of_ble_eq_true rfl, Nat.le_of_ble_eq_true rfl⟩ ⟨Nat.le_of_ble_eq_true rfl, Nat.le_of_ble_eq_true rfl⟩ [0, 1] rfl 0 (ci := 0) rfl rfl rfl rfl (Nat.le_of_ble_eq_true rfl) dX0_setPillar_1 (fun r_1 hr_1 => ?_)
  refine zv_if_ne hx hb dX0_setPillar_4 (tgt := 20) (by decide) ⟨by omega, by omega⟩ (fun c_2 => by exfalso; omega) (fun c_2 => ?_)
  refine lv_iload_n hx hb dX0_setPillar_7 rfl (lv_at hl 1 rfl) ?_
  refine zv_if_lt hx hb dX0_setPillar_8 (tgt := 20) (by decide) ⟨by omega, by omega⟩ (fun c_3 => by exfalso; omega) (fun c_3 => ?_)
  refine lv_iload_n hx hb dX0_setPillar_11 rfl (lv_at hl 1 rfl) ?_
  refine lv_aload_n hx hb dX0_setPillar_12 rfl (lv_at hl 0 rfl) ?_
  refine va_get (D := D) (ci := 0) (v := .ref pn) (C := RX0) (T := TX0) (N := 4) hx hb hts uX0 hown hK.1 hP 0 rfl rfl 2 (by decide) (hts _ q_59) (fun _ h9 => h9) rfl dX0_setPillar_13 ?_
  refine zv_alen hx hb hK.1 hP 1 0 rfl rfl dX0_setPillar_16 ?_
  refine zv_icmp_lt hx hb dX0_setPillar_17 (tgt := 22) (by decide) ⟨by omega, by omega⟩ ⟨by omega, by omega⟩ (fun c_4 => ?_) (fun c_4 => by exfalso; omega)
  refine lv_aload_n hx hb dX0_setPillar_22 rfl (lv_at hl 0 rfl) ?_
  refine va_get (D := D) (ci := 0) (v := .int (iI np)) (C := RX0) (T := TX0) (N := 4) hx hb hts uX0 hown hK.1 hP 0 rfl rfl 3 (by decide) (hts _ q_60) (fun _ h9 => h9) rfl dX0_setPillar_23 ?_
  refine lv_istore_n (lv' := [(2, .int (iI np)), (0, .ref fl), (1, .int (iI q))]) hx hb dX0_setPillar_26 rfl hl (by decide) rfl (fun ls hl => ?_)
  refine lv_aload_n hx hb dX0_setPillar_27 rfl (lv_at hl 1 rfl) ?_
  refine va_get (D := D) (ci := 0) (v := .ref pn) (C := RX0) (T := TX0) (N := 4) hx hb hts uX0 hown hK.1 hP 0 rfl rfl 2 (by decide) (hts _ q_59) (fun _ h9 => h9) rfl dX0_setPillar_28 ?_
  refine lv_iload_n hx hb dX0_setPillar_31 rfl (lv_at hl 2 rfl) ?_
  refine lv_iload_n hx hb dX0_setPillar_32 rfl (lv_at hl 0 rfl) ?_
  refine zv_iast hx hb hK.1 hP hD hS 1 0 rfl rfl (by omega) (by omega) (by omega) (ws' := [(fl, .inr (0, [.int (iI C), .int (iI R), .ref pn, .int (iI np)])), (pn, .inl (cI, 49, .inl (aI (updZ gn (q).toNat np))))]) rfl dX0_setPillar_33 (fun H locs hP hD hS => ?_)
  refine lv_aload_n hx hb dX0_setPillar_34 rfl (lv_at hl 1 rfl) ?_
  refine lv_dup hx hb dX0_setPillar_35 rfl ?_
  refine va_get (D := D) (ci := 0) (v := .int (iI np)) (C := RX0) (T := TX0) (N := 4) hx hb hts uX0 hown hK.1 hP 0 rfl rfl 3 (by decide) (hts _ q_60) (fun _ h9 => h9) rfl dX0_setPillar_36 ?_
  refine zv_iconst hx hb dX0_setPillar_39 ?_
  refine zv_iadd hx hb dX0_setPillar_40 ?_
  refine va_put (D := D) (ci := 0) (v := .int (iI (np + 1))) (ty := .int) (C := RX0) (T := TX0) (N := 4) hx hb hts uX0 tyX0 tyX0_ok nmX0 hown hK.1 hP hD hS 0 rfl rfl 3 (by decide) (hts _ q_60) (fun _ h9 => h9) rfl (by decide +kernel) rfl rfl (Nat.le_of_ble_eq_true rfl) dX0_setPillar_41 (fun H locs hP hD hS => ?_)
  have hP : va_P D vwCl [(fl, .inr (0, [.int (iI C), .int (iI R), .ref pn, .int (iI (np + 1))])), (pn, .inl (cI, 49, .inl (aI (updZ gn (q).toNat np))))] H := hP
  have hD : va_D A [(fl, .inr (0, [.int (iI C), .int (iI R), .ref pn, .int (iI (np + 1))])), (pn, .inl (cI, 49, .inl (aI (updZ gn (q).toNat np))))] := hD
  refine lv_iload_n hx hb dX0_setPillar_44 rfl (lv_at hl 0 rfl) ?_
  exact MM_iret ((np + 1), (updZ gn (q).toNat np)) hx hb hr hlk hP hD hS (Nat.le_of_ble_eq_true rfl) (Nat.le_of_ble_eq_true rfl) dX0_setPillar_45 (⟨rfl, rfl, rfl⟩)
set_option maxRecDepth 100000 in
set_option maxHeartbeats 4000000 in
theorem c_X0_init (l : Launch) (D : va_G) (cI cJ : ClassId) (fl : Nat) (C R : Int) (sz : Nat) : MMv l yX0_init (.code yX0_init cX0_init 3 none) 1 1 49 [.ref fl, .int (iI C), .int (iI R)] D cI cJ [(fl, .inr (0, [.int (iI 0), .int (iI 0), .null, .int (iI 0)]))] sz (fun (u : Nat × (Nat → Int)) => ∀ k : Nat, k < 49 → u.2 k = -1) (fun u : Nat × (Nat → Int) => [(fl, .inr (0, [.int (iI C), .int (iI R), .ref u.1, .int (iI 0)])), (u.1, .inl (cI, 49, .inl (aI u.2)))]) := by
  refine MM_of (Qc := fun A => QMv D A (fun (u : Nat × (Nat → Int)) => ∀ k : Nat, k < 49 → u.2 k = -1) (fun u : Nat × (Nat → Int) => [(fl, .inr (0, [.int (iI C), .int (iI R), .ref u.1, .int (iI 0)])), (u.1, .inl (cI, 49, .inl (aI u.2)))])) (by decide) rfl (Nat.le_of_ble_eq_true rfl) (fun p e s m below meth c ls A hx hb hr hts hown hlk hml hin hK hP hD hA hS hl => ?_)
  have hl : lv_has ls 3 [(0, .ref fl), (1, .int (iI C)), (2, .int (iI R))] := hl
  refine lv_aload_n hx hb dX0_init_0 rfl (lv_at hl 0 rfl) ?_
  refine W.objInit hx hb hown (hts _ q_53) (hts _ q_20) (hts _ q_21) rfl (by rw [hml]; exact hl.1) rfl dX0_init_1 (Nat.le_of_ble_eq_true rfl) (Nat.le_of_ble_eq_true rfl) ?_
  refine W.eq (g2 := F0 m 4 ls []) rfl ?_
  refine lv_aload_n hx hb dX0_init_4 rfl (lv_at hl 0 rfl) ?_
  refine zv_bipush hx hb dX0_init_5 (by decide) ?_
  refine zm_newa (z := 49) (n := 49) hx hb (hts _ q_38) hK hP hD hS hA rfl (Nat.le_of_ble_eq_true rfl) (Nat.le_of_ble_eq_true rfl) (Nat.le_of_ble_eq_true rfl) dX0_init_7 (fun a_1 H hP hD hS => ?_)
  have hP : va_P D vwCl [(fl, .inr (0, [.int (iI 0), .int (iI 0), .null, .int (iI 0)])), (a_1, .inl (cI, 49, .inl (aI (fun _ => 0))))] H := hP
  have hD : va_D A [(fl, .inr (0, [.int (iI 0), .int (iI 0), .null, .int (iI 0)])), (a_1, .inl (cI, 49, .inl (aI (fun _ => 0))))] := hD
  refine va_putF (D := D) (ci := 0) (v := .ref a_1) (ty := (.array .int)) (C := RX0) (T := TX0) (N := 4) hx hb hts uX0 tyX0 tyX0_ok nmX0 hown hK.1 hP hD hS 0 rfl rfl 2 (by decide) (hts _ q_59) (fun _ h9 => h9) rfl hin rfl (by decide +kernel) rfl rfl (Nat.le_of_ble_eq_true rfl) dX0_init_9 (fun H locs hP hD hS => ?_)
  have hP : va_P D vwCl [(fl, .inr (0, [.int (iI 0), .int (iI 0), .ref a_1, .int (iI 0)])), (a_1, .inl (cI, 49, .inl (aI (fun _ => 0))))] H := hP
  have hD : va_D A [(fl, .inr (0, [.int (iI 0), .int (iI 0), .ref a_1, .int (iI 0)])), (a_1, .inl (cI, 49, .inl (aI (fun _ => 0))))] := hD
  refine lv_aload_n hx hb dX0_init_12 rfl (lv_at hl 0 rfl) ?_
  refine lv_iload_n hx hb dX0_init_13 rfl (lv_at hl 1 rfl) ?_
  refine va_putF (D := D) (ci := 0) (v := .int (iI C)) (ty := .int) (C := RX0) (T := TX0) (N := 4) hx hb hts uX0 tyX0 tyX0_ok nmX0 hown hK.1 hP hD hS 0 rfl rfl 0 (by decide) (hts _ q_57) (fun _ h9 => h9) rfl hin rfl (by decide +kernel) rfl rfl (Nat.le_of_ble_eq_true rfl) dX0_init_14 (fun H locs hP hD hS => ?_)
  have hP : va_P D vwCl [(fl, .inr (0, [.int (iI C), .int (iI 0), .ref a_1, .int (iI 0)])), (a_1, .inl (cI, 49, .inl (aI (fun _ => 0))))] H := hP
  have hD : va_D A [(fl, .inr (0, [.int (iI C), .int (iI 0), .ref a_1, .int (iI 0)])), (a_1, .inl (cI, 49, .inl (aI (fun _ => 0))))] := hD
  refine lv_aload_n hx hb dX0_init_17 rfl (lv_at hl 0 rfl) ?_
  refine lv_iload_n hx hb dX0_init_18 rfl (lv_at hl 2 rfl) ?_
  refine va_putF (D := D) (ci := 0) (v := .int (iI R)) (ty := .int) (C := RX0) (T := TX0) (N := 4) hx hb hts uX0 tyX0 tyX0_ok nmX0 hown hK.1 hP hD hS 0 rfl rfl 1 (by decide) (hts _ q_58) (fun _ h9 => h9) rfl hin rfl (by decide +kernel) rfl rfl (Nat.le_of_ble_eq_true rfl) dX0_init_19 (fun H locs hP hD hS => ?_)
  have hP : va_P D vwCl [(fl, .inr (0, [.int (iI C), .int (iI R), .ref a_1, .int (iI 0)])), (a_1, .inl (cI, 49, .inl (aI (fun _ => 0))))] H := hP
  have hD : va_D A [(fl, .inr (0, [.int (iI C), .int (iI R), .ref a_1, .int (iI 0)])), (a_1, .inl (cI, 49, .inl (aI (fun _ => 0))))] := hD
  refine lv_aload_n hx hb dX0_init_22 rfl (lv_at hl 0 rfl) ?_
  refine va_get (D := D) (ci := 0) (v := .ref a_1) (C := RX0) (T := TX0) (N := 4) hx hb hts uX0 hown hK.1 hP 0 rfl rfl 2 (by decide) (hts _ q_59) (fun _ h9 => h9) rfl dX0_init_23 ?_
  refine zv_iconst hx hb dX0_init_26 ?_
  refine zm_Sv (As := [.ref a_1, .int (iI (-1))]) (rest := []) (ws := [(fl, .inr (0, [.int (iI C), .int (iI R), .ref a_1, .int (iI 0)])), (a_1, .inl (cI, 49, .inl (aI (fun _ => 0))))]) (wr := [(fl, .inr (0, [.int (iI C), .int (iI R), .ref a_1, .int (iI 0)]))]) (n := 2) hx hb (hml.trans hl.1.symm) hts hown hK hP hD hS hA (c_J7_fill_53178 l D cI cJ a_1 49 (-1) (fun _ => 0) (Nat.le_of_ble_eq_true rfl) _) (gd_vaS q_54 q_55 q_5 q_56) (by decide +kernel) rfl ⟨Nat.le_of_ble_eq_true rfl, Nat.le_of_ble_eq_true rfl⟩ ⟨Nat.le_of_ble_eq_true rfl, Nat.le_of_ble_eq_true rfl⟩ [1] [0] rfl rfl (by decide) (by decide) (by decide) rfl (Nat.le_of_ble_eq_true rfl) dX0_init_27 (fun u H locs hq_2 hP hD hS => ?_)
  obtain ⟨gf, rfl⟩ : ∃ z, z = u := ⟨_, rfl⟩
  have hP := hP.sub (ws' := [(fl, .inr (0, [.int (iI C), .int (iI R), .ref a_1, .int (iI 0)])), (a_1, .inl (cI, 49, .inl (aI gf)))]) [0, 1] rfl
  have hD := hD.sub (ws' := [(fl, .inr (0, [.int (iI C), .int (iI R), .ref a_1, .int (iI 0)])), (a_1, .inl (cI, 49, .inl (aI gf)))]) [0, 1] (by decide) rfl
  try dsimp only at hq_2
  have hfill := hq_2
  exact MM_vret (a_1, gf) hx hb hr hlk hP hD hS (Nat.le_of_ble_eq_true rfl) (Nat.le_of_ble_eq_true rfl) dX0_init_30 (hfill)
set_option maxRecDepth 100000 in
set_option maxHeartbeats 4000000 in
theorem c_X1_init (l : Launch) (D : va_G) (cI cJ : ClassId) (sp : Nat) (sz : Nat) : MMv l yX1_init (.code yX1_init cX1_init 1 none) 1 2 25970 [.ref sp] D cI cJ [(sp, .inr (1, [.null, .null, .int (iI 0)]))] sz (fun (u : Nat × Nat) => True) (fun u : Nat × Nat => [(sp, .inr (1, [.ref u.1, .ref u.2, .int (iI 0)])), (u.1, .inl (cI, 16807, .inl (aI (fun _ => 0)))), (u.2, .inl (cI, 9163, .inl (aI (fun _ => 0))))]) := by
  refine MM_of (Qc := fun A => QMv D A (fun (u : Nat × Nat) => True) (fun u : Nat × Nat => [(sp, .inr (1, [.ref u.1, .ref u.2, .int (iI 0)])), (u.1, .inl (cI, 16807, .inl (aI (fun _ => 0)))), (u.2, .inl (cI, 9163, .inl (aI (fun _ => 0))))])) (by decide) rfl (Nat.le_of_ble_eq_true rfl) (fun p e s m below meth c ls A hx hb hr hts hown hlk hml hin hK hP hD hA hS hl => ?_)
  have hl : lv_has ls 1 [(0, .ref sp)] := hl
  refine lv_aload_n hx hb dX1_init_0 rfl (lv_at hl 0 rfl) ?_
  refine W.objInit hx hb hown (hts _ q_27) (hts _ q_20) (hts _ q_21) rfl (by rw [hml]; exact hl.1) rfl dX1_init_1 (Nat.le_of_ble_eq_true rfl) (Nat.le_of_ble_eq_true rfl) ?_
  refine W.eq (g2 := F0 m 4 ls []) rfl ?_
  refine lv_aload_n hx hb dX1_init_4 rfl (lv_at hl 0 rfl) ?_
  refine zv_sipush hx hb dX1_init_5 (by decide) ?_
  refine zm_newa (z := 16807) (n := 16807) hx hb (hts _ q_38) hK hP hD hS hA rfl (Nat.le_of_ble_eq_true rfl) (Nat.le_of_ble_eq_true rfl) (Nat.le_of_ble_eq_true rfl) dX1_init_8 (fun a_1 H hP hD hS => ?_)
  have hP : va_P D vwCl [(sp, .inr (1, [.null, .null, .int (iI 0)])), (a_1, .inl (cI, 16807, .inl (aI (fun _ => 0))))] H := hP
  have hD : va_D A [(sp, .inr (1, [.null, .null, .int (iI 0)])), (a_1, .inl (cI, 16807, .inl (aI (fun _ => 0))))] := hD
  refine va_putF (D := D) (ci := 1) (v := .ref a_1) (ty := (.array .int)) (C := RX1) (T := TX1) (N := 3) hx hb hts uX1 tyX1 tyX1_ok nmX1 hown hK.1 hP hD hS 0 rfl rfl 0 (by decide) (hts _ q_28) (fun _ h9 => h9) rfl hin rfl (by decide +kernel) rfl rfl (Nat.le_of_ble_eq_true rfl) dX1_init_10 (fun H locs hP hD hS => ?_)
  have hP : va_P D vwCl [(sp, .inr (1, [.ref a_1, .null, .int (iI 0)])), (a_1, .inl (cI, 16807, .inl (aI (fun _ => 0))))] H := hP
  have hD : va_D A [(sp, .inr (1, [.ref a_1, .null, .int (iI 0)])), (a_1, .inl (cI, 16807, .inl (aI (fun _ => 0))))] := hD
  refine lv_aload_n hx hb dX1_init_13 rfl (lv_at hl 0 rfl) ?_
  refine zv_sipush hx hb dX1_init_14 (by decide) ?_
  refine zm_newa (z := 9163) (n := 9163) hx hb (hts _ q_38) hK hP hD hS hA rfl (Nat.le_of_ble_eq_true rfl) (Nat.le_of_ble_eq_true rfl) (Nat.le_of_ble_eq_true rfl) dX1_init_17 (fun a_2 H hP hD hS => ?_)
  have hP : va_P D vwCl [(sp, .inr (1, [.ref a_1, .null, .int (iI 0)])), (a_1, .inl (cI, 16807, .inl (aI (fun _ => 0)))), (a_2, .inl (cI, 9163, .inl (aI (fun _ => 0))))] H := hP
  have hD : va_D A [(sp, .inr (1, [.ref a_1, .null, .int (iI 0)])), (a_1, .inl (cI, 16807, .inl (aI (fun _ => 0)))), (a_2, .inl (cI, 9163, .inl (aI (fun _ => 0))))] := hD
  refine va_putF (D := D) (ci := 1) (v := .ref a_2) (ty := (.array .int)) (C := RX1) (T := TX1) (N := 3) hx hb hts uX1 tyX1 tyX1_ok nmX1 hown hK.1 hP hD hS 0 rfl rfl 1 (by decide) (hts _ q_29) (fun _ h9 => h9) rfl hin rfl (by decide +kernel) rfl rfl (Nat.le_of_ble_eq_true rfl) dX1_init_19 (fun H locs hP hD hS => ?_)
  have hP : va_P D vwCl [(sp, .inr (1, [.ref a_1, .ref a_2, .int (iI 0)])), (a_1, .inl (cI, 16807, .inl (aI (fun _ => 0)))), (a_2, .inl (cI, 9163, .inl (aI (fun _ => 0))))] H := hP
  have hD : va_D A [(sp, .inr (1, [.ref a_1, .ref a_2, .int (iI 0)])), (a_1, .inl (cI, 16807, .inl (aI (fun _ => 0)))), (a_2, .inl (cI, 9163, .inl (aI (fun _ => 0))))] := hD
  exact MM_vret (a_1, a_2) hx hb hr hlk hP hD hS (Nat.le_of_ble_eq_true rfl) (Nat.le_of_ble_eq_true rfl) dX1_init_22 (trivial)
