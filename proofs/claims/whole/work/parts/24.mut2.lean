set_option maxRecDepth 100000 in
set_option maxHeartbeats 4000000 in
theorem c_X0_setPillar (l : Launch) (D : va_G) (cI cJ : ClassId) (fl pn : Nat) (C R np : Int) (gn : Nat → Int) (N : Int → Int) (q : Int) (hF : FlOK C R np N gn) (hn1 : np < 3) (hq0 : 0 ≤ q) (hq1 : q < 49) (sz : Nat) : MMi l yX0_setPillar (.code yX0_setPillar cX0_setPillar 3 (some .int)) 1 0 0 [.ref fl, .int (iI q)] D cI cJ [(fl, .inr (0, [.int (iI C), .int (iI R), .ref pn, .int (iI np)])), (pn, .inl (cI, 49, .inl (aI gn)))] sz (fun (r : Int) (u : Int × (Nat → Int)) => r = np ∧ u.1 = np + 1 ∧ u.2 = updZ gn (q).toNat np) (fun u : Int × (Nat → Int) => [(fl, .inr (0, [.int (iI C), .int (iI R), .ref pn, .int (iI u.1)])), (pn, .inl (cI, 49, .inl (aI u.2)))]) := by
  obtain ⟨hC1, hC2, hR1, hR2, hp1, hp2, -, -⟩ := id hF
  refine MM_of (Qc := fun A => QMi D A (fun (r : Int) (u : Int × (Nat → Int)) => r = np ∧ u.1 = np + 1 ∧ u.2 = updZ gn (q).toNat np) (fun u : Int × (Nat → Int) => [(fl, .inr (0, [.int (iI C), .int (iI R), .ref pn, .int (iI u.1)])), (pn, .inl (cI, 49, .inl (aI u.2)))])) (by decide) rfl (Nat.le_of_ble_eq_true rfl) (fun p e s m below meth c ls A hx hb hr hts hown hlk hml hin hK hP hD hA hS hl => ?_)
  have hl : lv_has ls 3 [(0, .ref fl), (1, .int (iI q))] := hl
  refine lv_aload_n hx hb dX0_setPillar_0 rfl (lv_at hl 0 rfl) ?_
  refine zc_V (As := []) (rest := []) (ws := [(fl, .inr (0, [.int (iI C), .int (iI R), .ref pn, .int (iI np)])), (pn, .inl (cI, 49, .inl (aI gn)))]) (n := 0) hx hb (hml.trans hl.1.symm) hts hown hK hP (c_X0_isFull l D cI cJ fl pn C R np gn N hF) (gd_V q_343 q_319 q_320 q_3 q_321) (by decide +kernel) rfl ⟨Nat.le_of_ble_eq_true rfl, Nat.le_of_ble_eq_true rfl⟩ ⟨Nat.le_of_ble_eq_true rfl, Nat.le_of_ble_eq_true rfl⟩ [0, 1] rfl 0 (ci := 0) rfl rfl rfl rfl (Nat.le_of_ble_eq_true rfl) dX0_setPillar_1 (fun r_1 hr_1 => ?_)
  refine zv_if_ne hx hb dX0_setPillar_4 (tgt := 20) (by decide) ⟨by omega, by omega⟩ (fun c_2 => by exfalso; omega) (fun c_2 => ?_)
  refine lv_iload_n hx hb dX0_setPillar_7 rfl (lv_at hl 1 rfl) ?_
  refine zv_if_lt hx hb dX0_setPillar_8 (tgt := 20) (by decide) ⟨by omega, by omega⟩ (fun c_3 => by exfalso; omega) (fun c_3 => ?_)
  refine lv_iload_n hx hb dX0_setPillar_11 rfl (lv_at hl 1 rfl) ?_
  refine lv_aload_n hx hb dX0_setPillar_12 rfl (lv_at hl 0 rfl) ?_
  refine va_get (D := D) (ci := 0) (v := .ref pn) (C := RX0) (T := TX0) (N := 4) hx hb hts uX0 hown hK.1 hP 0 rfl rfl 2 (by decide) (hts _ q_59) (fun _ h9 => h9) rfl dX0_setPillar_13 ?_
  refine zv_alen hx hb hK.1 hP 1 0 rfl rfl dX0_setPillar_16 ?_
  refine zv_icmp_lt hx hb dX0_setPillar_17 (tgt := 22) (by decide) ⟨by omega, by omega⟩ ⟨by omega, by omega⟩ (fun c_4 => ?_) (fun c_4 => by exfalso; omega)
  refine lv_aload_n hx hb dX0_setPillar_22 rfl (lv_at hl 0 rfl) ?_
  refine va_get (D := D) (ci := 0) (v := .int (iI np)) (C := RX0) (T := TX0) (N := 4) hx hb hts uX0 hown hK.1 hP 0 rfl rfl 3 (by decide) (hts _ q_60) (fun _ h9 => h9) rfl dX0_setPillar_23 ?_
  refine lv_istore_n (lv' := [(2, .int (iI np)), (0, .ref fl), (1, .int (iI q))]) hx hb dX0_setPillar_26 rfl hl (by decide) rfl (fun ls hl => ?_)
  refine lv_aload_n hx hb dX0_setPillar_27 rfl (lv_at hl 1 rfl) ?_
  refine va_get (D := D) (ci := 0) (v := .ref pn) (C := RX0) (T := TX0) (N := 4) hx hb hts uX0 hown hK.1 hP 0 rfl rfl 2 (by decide) (hts _ q_59) (fun _ h9 => h9) rfl dX0_setPillar_28 ?_
  refine lv_iload_n hx hb dX0_setPillar_31 rfl (lv_at hl 2 rfl) ?_
  refine lv_iload_n hx hb dX0_setPillar_32 rfl (lv_at hl 0 rfl) ?_
  refine zv_iast hx hb hK.1 hP hD hS 1 0 rfl rfl (by omega) (by omega) (by omega) (ws' := [(fl, .inr (0, [.int (iI C), .int (iI R), .ref pn, .int (iI np)])), (pn, .inl (cI, 49, .inl (aI (updZ gn (q).toNat np))))]) rfl dX0_setPillar_33 (fun H locs hP hD hS => ?_)
  refine lv_aload_n hx hb dX0_setPillar_34 rfl (lv_at hl 1 rfl) ?_
  refine lv_dup hx hb dX0_setPillar_35 rfl ?_
  refine va_get (D := D) (ci := 0) (v := .int (iI np)) (C := RX0) (T := TX0) (N := 4) hx hb hts uX0 hown hK.1 hP 0 rfl rfl 3 (by decide) (hts _ q_60) (fun _ h9 => h9) rfl dX0_setPillar_36 ?_
  refine zv_iconst hx hb dX0_setPillar_39 ?_
  refine zv_iadd hx hb dX0_setPillar_40 ?_
  refine va_put (D := D) (ci := 0) (v := .int (iI (np + 1))) (ty := .int) (C := RX0) (T := TX0) (N := 4) hx hb hts uX0 tyX0 tyX0_ok nmX0 hown hK.1 hP hD hS 0 rfl rfl 3 (by decide) (hts _ q_60) (fun _ h9 => h9) rfl (by decide +kernel) rfl rfl (Nat.le_of_ble_eq_true rfl) dX0_setPillar_41 (fun H locs hP hD hS => ?_)
  have hP : va_P D vwCl [(fl, .inr (0, [.int (iI C), .int (iI R), .ref pn, .int (iI (np + 1))])), (pn, .inl (cI, 49, .inl (aI (updZ gn (q).toNat np))))] H := hP
  have hD : va_D A [(fl, .inr (0, [.int (iI C), .int (iI R), .ref pn, .int (iI (np + 1))])), (pn, .inl (cI, 49, .inl (aI (updZ gn (q).toNat np))))] := hD
  refine lv_iload_n hx hb dX0_setPillar_44 rfl (lv_at hl 0 rfl) ?_
  exact MM_iret ((np + 1), (updZ gn (q).toNat np)) hx hb hr hlk hP hD hS (Nat.le_of_ble_eq_true rfl) (Nat.le_of_ble_eq_true rfl) dX0_setPillar_45 (⟨rfl, rfl, rfl⟩)
set_option maxRecDepth 100000 in
set_option maxHeartbeats 4000000 in
theorem c_X0_init (l : Launch) (D : va_G) (cI cJ : ClassId) (fl : Nat) (C R : Int) (sz : Nat) : MMv l yX0_init (.code yX0_init cX0_init 3 none) 1 1 49 [.ref fl, .int (iI C), .int (iI R)] D cI cJ [(fl, .inr (0, [.int (iI 0), .int (iI 0), .null, .int (iI 0)]))] sz (fun (u : Nat × (Nat → Int)) => ∀ k : Nat, k < 49 → u.2 k = -1) (fun u : Nat × (Nat → Int) => [(fl, .inr (0, [.int (iI C), .int (iI R), .ref u.1, .int (iI 0)])), (u.1, .inl (cI, 49, .inl (aI u.2)))]) := by
  refine MM_of (Qc := fun A => QMv D A (fun (u : Nat × (Nat → Int)) => ∀ k : Nat, k < 49 → u.2 k = -1) (fun u : Nat × (Nat → Int) => [(fl, .inr (0, [.int (iI C), .int (iI R), .ref u.1, .int (iI 0)])), (u.1, .inl (cI, 49, .inl (aI u.2)))])) (by decide) rfl (Nat.le_of_ble_eq_true rfl) (fun p e s m below meth c ls A hx hb hr hts hown hlk hml hin hK hP hD hA hS hl => ?_)
  have hl : lv_has ls 3 [(0, .ref fl), (1, .int (iI C)), (2, .int (iI R))] := hl
  refine lv_aload_n hx hb dX0_init_0 rfl (lv_at hl 0 rfl) ?_
  refine W.objInit hx hb hown (hts _ q_53) (hts _ q_20) (hts _ q_21) rfl (by rw [hml]; exact hl.1) rfl dX0_init_1 (Nat.le_of_ble_eq_true rfl) (Nat.le_of_ble_eq_true rfl) ?_
  refine W.eq (g2 := F0 m 4 ls []) rfl ?_
  refine lv_aload_n hx hb dX0_init_4 rfl (lv_at hl 0 rfl) ?_
  refine zv_bipush hx hb dX0_init_5 (by decide) ?_
  refine zm_newa (z := 49) (n := 49) hx hb (hts _ q_38) hK hP hD hS hA rfl (Nat.le_of_ble_eq_true rfl) (Nat.le_of_ble_eq_true rfl) (Nat.le_of_ble_eq_true rfl) dX0_init_7 (fun a_1 H hP hD hS => ?_)
  have hP : va_P D vwCl [(fl, .inr (0, [.int (iI 0), .int (iI 0), .null, .int (iI 0)])), (a_1, .inl (cI, 49, .inl (aI (fun _ => 0))))] H := hP
  have hD : va_D A [(fl, .inr (0, [.int (iI 0), .int (iI 0), .null, .int (iI 0)])), (a_1, .inl (cI, 49, .inl (aI (fun _ => 0))))] := hD
  refine va_putF (D := D) (ci := 0) (v := .ref a_1) (ty := (.array .int)) (C := RX0) (T := TX0) (N := 4) hx hb hts uX0 tyX0 tyX0_ok nmX0 hown hK.1 hP hD hS 0 rfl rfl 2 (by decide) (hts _ q_59) (fun _ h9 => h9) rfl hin rfl (by decide +kernel) rfl rfl (Nat.le_of_ble_eq_true rfl) dX0_init_9 (fun H locs hP hD hS => ?_)
  have hP : va_P D vwCl [(fl, .inr (0, [.int (iI 0), .int (iI 0), .ref a_1, .int (iI 0)])), (a_1, .inl (cI, 49, .inl (aI (fun _ => 0))))] H := hP
  have hD : va_D A [(fl, .inr (0, [.int (iI 0), .int (iI 0), .ref a_1, .int (iI 0)])), (a_1, .inl (cI, 49, .inl (aI (fun _ => 0))))] := hD
  refine lv_aload_n hx hb dX0_init_12 rfl (lv_at hl 0 rfl) ?_
  refine lv_iload_n hx hb dX0_init_13 rfl (lv_at hl 1 rfl) ?_
  refine va_putF (D := D) (ci := 0) (v := .int (iI C)) (ty := .int) (C := RX0) (T := TX0) (N := 4) hx hb hts uX0 tyX0 tyX0_ok nmX0 hown hK.1 hP hD hS 0 rfl rfl 0 (by decide) (hts _ q_57) (fun _ h9 => h9) rfl hin rfl (by decide +kernel) rfl rfl (Nat.le_of_ble_eq_true rfl) dX0_init_14 (fun H locs hP hD hS => ?_)
  have hP : va_P D vwCl [(fl, .inr (0, [.int (iI C), .int (iI 0), .ref a_1, .int (iI 0)])), (a_1, .inl (cI, 49, .inl (aI (fun _ => 0))))] H := hP
  have hD : va_D A [(fl, .inr (0, [.int (iI C), .int (iI 0), .ref a_1, .int (iI 0)])), (a_1, .inl (cI, 49, .inl (aI (fun _ => 0))))] := hD
  refine lv_aload_n hx hb dX0_init_17 rfl (lv_at hl 0 rfl) ?_
  refine lv_iload_n hx hb dX0_init_18 rfl (lv_at hl 2 rfl) ?_
  refine va_putF (D := D) (ci := 0) (v := .int (iI R)) (ty := .int) (C := RX0) (T := TX0) (N := 4) hx hb hts uX0 tyX0 tyX0_ok nmX0 hown hK.1 hP hD hS 0 rfl rfl 1 (by decide) (hts _ q_58) (fun _ h9 => h9) rfl hin rfl (by decide +kernel) rfl rfl (Nat.le_of_ble_eq_true rfl) dX0_init_19 (fun H locs hP hD hS => ?_)
  have hP : va_P D vwCl [(fl, .inr (0, [.int (iI C), .int (iI R), .ref a_1, .int (iI 0)])), (a_1, .inl (cI, 49, .inl (aI (fun _ => 0))))] H := hP
  have hD : va_D A [(fl, .inr (0, [.int (iI C), .int (iI R), .ref a_1, .int (iI 0)])), (a_1, .inl (cI, 49, .inl (aI (fun _ => 0))))] := hD
  refine lv_aload_n hx hb dX0_init_22 rfl (lv_at hl 0 rfl) ?_
  refine va_get (D := D) (ci := 0) (v := .ref a_1) (C := RX0) (T := TX0) (N := 4) hx hb hts uX0 hown hK.1 hP 0 rfl rfl 2 (by decide) (hts _ q_59) (fun _ h9 => h9) rfl dX0_init_23 ?_
  refine zv_iconst hx hb dX0_init_26 ?_
  refine zm_Sv (As := [.ref a_1, .int (iI (-1))]) (rest := []) (ws := [(fl, .inr (0, [.int (iI C), .int (iI R), .ref a_1, .int (iI 0)])), (a_1, .inl (cI, 49, .inl (aI (fun _ => 0))))]) (wr := [(fl, .inr (0, [.int (iI C), .int (iI R), .ref a_1, .int (iI 0)]))]) (n := 2) hx hb (hml.trans hl.1.symm) hts hown hK hP hD hS hA (c_J7_fill_53178 l D cI cJ a_1 49 (-1) (fun _ => 0) (Nat.le_of_ble_eq_true rfl) _) (gd_vaS q_54 q_55 q_5 q_56) (by decide +kernel) rfl ⟨Nat.le_of_ble_eq_true rfl, Nat.le_of_ble_eq_true rfl⟩ ⟨Nat.le_of_ble_eq_true rfl, Nat.le_of_ble_eq_true rfl⟩ [1] [0] rfl rfl (by decide) (by decide) (by decide) rfl (Nat.le_of_ble_eq_true rfl) dX0_init_27 (fun u H locs hq_2 hP hD hS => ?_)
  obtain ⟨gf, rfl⟩ : ∃ z, z = u := ⟨_, rfl⟩
  have hP := hP.sub (ws' := [(fl, .inr (0, [.int (iI C), .int (iI R), .ref a_1, .int (iI 0)])), (a_1, .inl (cI, 49, .inl (aI gf)))]) [0, 1] rfl
  have hD := hD.sub (ws' := [(fl, .inr (0, [.int (iI C), .int (iI R), .ref a_1, .int (iI 0)])), (a_1, .inl (cI, 49, .inl (aI gf)))]) [0, 1] (by decide) rfl
  try dsimp only at hq_2
  have hfill := hq_2
  exact MM_vret (a_1, gf) hx hb hr hlk hP hD hS (Nat.le_of_ble_eq_true rfl) (Nat.le_of_ble_eq_true rfl) dX0_init_30 (hfill)
set_option maxRecDepth 100000 in
set_option maxHeartbeats 4000000 in
theorem c_X1_init (l : Launch) (D : va_G) (cI cJ : ClassId) (sp : Nat) (sz : Nat) : MMv l yX1_init (.code yX1_init cX1_init 1 none) 1 2 25970 [.ref sp] D cI cJ [(sp, .inr (1, [.null, .null, .int (iI 0)]))] sz (fun (u : Nat × Nat) => True) (fun u : Nat × Nat => [(sp, .inr (1, [.ref u.1, .ref u.2, .int (iI 0)])), (u.1, .inl (cI, 16807, .inl (aI (fun _ => 0)))), (u.2, .inl (cI, 9163, .inl (aI (fun _ => 0))))]) := by
  refine MM_of (Qc := fun A => QMv D A (fun (u : Nat × Nat) => True) (fun u : Nat × Nat => [(sp, .inr (1, [.ref u.1, .ref u.2, .int (iI 0)])), (u.1, .inl (cI, 16807, .inl (aI (fun _ => 0)))), (u.2, .inl (cI, 9163, .inl (aI (fun _ => 0))))])) (by decide) rfl (Nat.le_of_ble_eq_true rfl) (fun p e s m below meth c ls A hx hb hr hts hown hlk hml hin hK hP hD hA hS hl => ?_)
  have hl : lv_has ls 1 [(0, .ref sp)] := hl
  refine lv_aload_n hx hb dX1_init_0 rfl (lv_at hl 0 rfl) ?_
  refine W.objInit hx hb hown (hts _ q_27) (hts _ q_20) (hts _ q_21) rfl (by rw [hml]; exact hl.1) rfl dX1_init_1 (Nat.le_of_ble_eq_true rfl) (Nat.le_of_ble_eq_true rfl) ?_
  refine W.eq (g2 := F0 m 4 ls []) rfl ?_
  refine lv_aload_n hx hb dX1_init_4 rfl (lv_at hl 0 rfl) ?_
  refine zv_sipush hx hb dX1_init_5 (by decide) ?_
  refine zm_newa (z := 16807) (n := 16807) hx hb (hts _ q_38) hK hP hD hS hA rfl (Nat.le_of_ble_eq_true rfl) (Nat.le_of_ble_eq_true rfl) (Nat.le_of_ble_eq_true rfl) dX1_init_8 (fun a_1 H hP hD hS => ?_)
  have hP : va_P D vwCl [(sp, .inr (1, [.null, .null, .int (iI 0)])), (a_1, .inl (cI, 16807, .inl (aI (fun _ => 0))))] H := hP
  have hD : va_D A [(sp, .inr (1, [.null, .null, .int (iI 0)])), (a_1, .inl (cI, 16807, .inl (aI (fun _ => 0))))] := hD
  refine va_putF (D := D) (ci := 1) (v := .ref a_1) (ty := (.array .int)) (C := RX1) (T := TX1) (N := 3) hx hb hts uX1 tyX1 tyX1_ok nmX1 hown hK.1 hP hD hS 0 rfl rfl 0 (by decide) (hts _ q_28) (fun _ h9 => h9) rfl hin rfl (by decide +kernel) rfl rfl (Nat.le_of_ble_eq_true rfl) dX1_init_10 (fun H locs hP hD hS => ?_)
  have hP : va_P D vwCl [(sp, .inr (1, [.ref a_1, .null, .int (iI 0)])), (a_1, .inl (cI, 16807, .inl (aI (fun _ => 0))))] H := hP
  have hD : va_D A [(sp, .inr (1, [.ref a_1, .null, .int (iI 0)])), (a_1, .inl (cI, 16807, .inl (aI (fun _ => 0))))] := hD
  refine lv_aload_n hx hb dX1_init_13 rfl (lv_at hl 0 rfl) ?_
  refine zv_sipush hx hb dX1_init_14 (by decide) ?_
  refine zm_newa (z := 9163) (n := 9163) hx hb (hts _ q_38) hK hP hD hS hA rfl (Nat.le_of_ble_eq_true rfl) (Nat.le_of_ble_eq_true rfl) (Nat.le_of_ble_eq_true rfl) dX1_init_17 (fun a_2 H hP hD hS => ?_)
  have hP : va_P D vwCl [(sp, .inr (1, [.ref a_1, .null, .int (iI 0)])), (a_1, .inl (cI, 16807, .inl (aI (fun _ => 0)))), (a_2, .inl (cI, 9163, .inl (aI (fun _ => 0))))] H := hP
  have hD : va_D A [(sp, .inr (1, [.ref a_1, .null, .int (iI 0)])), (a_1, .inl (cI, 16807, .inl (aI (fun _ => 0)))), (a_2, .inl (cI, 9163, .inl (aI (fun _ => 0))))] := hD
  refine va_putF (D := D) (ci := 1) (v := .ref a_2) (ty := (.array .int)) (C := RX1) (T := TX1) (N := 3) hx hb hts uX1 tyX1 tyX1_ok nmX1 hown hK.1 hP hD hS 0 rfl rfl 1 (by decide) (hts _ q_29) (fun _ h9 => h9) rfl hin rfl (by decide +kernel) rfl rfl (Nat.le_of_ble_eq_true rfl) dX1_init_19 (fun H locs hP hD hS => ?_)
  have hP : va_P D vwCl [(sp, .inr (1, [.ref a_1, .ref a_2, .int (iI 0)])), (a_1, .inl (cI, 16807, .inl (aI (fun _ => 0)))), (a_2, .inl (cI, 9163, .inl (aI (fun _ => 0))))] H := hP
  have hD : va_D A [(sp, .inr (1, [.ref a_1, .ref a_2, .int (iI 0)])), (a_1, .inl (cI, 16807, .inl (aI (fun _ => 0)))), (a_2, .inl (cI, 9163, .inl (aI (fun _ => 0))))] := hD
  exact MM_vret (a_1, a_2) hx hb hr hlk hP hD hS (Nat.le_of_ble_eq_true rfl) (Nat.le_of_ble_eq_true rfl) dX1_init_22 (trivial)
set_option maxRecDepth 100000 in
set_option maxHeartbeats 4000000 in
theorem c_X3_holds (l : Launch) (D : va_G) (cI cJ : ClassId) (mm ac ar al aq ab : Nat) (th C R lim np qb qs wd sm : Int) (k : Int) (hk1 : -2147483648 ≤ k) (hk2 : k < 2147483648) (sz : Nat) : MMi l yX3_holds (.code yX3_holds cX3_holds 2 (some .boolean)) 0 0 0 [.ref mm, .int (iI k)] D cI cJ [(mm, .inr (3, [.int (iI th), .int (iI C), .int (iI R), .int (iI lim), .int (iI np), .ref ac, .ref ar, .int (iI qb), .int (iI qs), .int (iI wd), .int (iI sm), .ref al, .ref aq, .ref ab]))] sz (fun (r : Int) (u : Unit) => (r = 1 ∧ k = 0) ∨ (r = 0 ∧ ¬ k = 0)) (fun u : Unit => [(mm, .inr (3, [.int (iI k), .int (iI C), .int (iI R), .int (iI lim), .int (iI np), .ref ac, .ref ar, .int (iI qb), .int (iI qs), .int (iI wd), .int (iI sm), .ref al, .ref aq, .ref ab]))]) := by
  refine MM_of (Qc := fun A => QMi D A (fun (r : Int) (u : Unit) => (r = 1 ∧ k = 0) ∨ (r = 0 ∧ ¬ k = 0)) (fun u : Unit => [(mm, .inr (3, [.int (iI k), .int (iI C), .int (iI R), .int (iI lim), .int (iI np), .ref ac, .ref ar, .int (iI qb), .int (iI qs), .int (iI wd), .int (iI sm), .ref al, .ref aq, .ref ab]))])) (by decide) rfl (Nat.le_of_ble_eq_true rfl) (fun p e s m below meth c ls A hx hb hr hts hown hlk hml hin hK hP hD hA hS hl => ?_)
  have hl : lv_has ls 2 [(0, .ref mm), (1, .int (iI k))] := hl
  refine lv_aload_n hx hb dX3_holds_0 rfl (lv_at hl 0 rfl) ?_
  refine lv_iload_n hx hb dX3_holds_1 rfl (lv_at hl 1 rfl) ?_
  refine va_put (D := D) (ci := 3) (v := .int (iI k)) (ty := .int) (C := RX3) (T := TX3) (N := 14) hx hb hts uX3 tyX3 tyX3_ok nmX3 hown hK.1 hP hD hS 0 rfl rfl 0 (by decide) (hts _ q_526) (fun _ h9 => h9) rfl (by decide +kernel) rfl rfl (Nat.le_of_ble_eq_true rfl) dX3_holds_2 (fun H locs hP hD hS => ?_)
  have hP : va_P D vwCl [(mm, .inr (3, [.int (iI k), .int (iI C), .int (iI R), .int (iI lim), .int (iI np), .ref ac, .ref ar, .int (iI qb), .int (iI qs), .int (iI wd), .int (iI sm), .ref al, .ref aq, .ref ab]))] H := hP
  have hD : va_D A [(mm, .inr (3, [.int (iI k), .int (iI C), .int (iI R), .int (iI lim), .int (iI np), .ref ac, .ref ar, .int (iI qb), .int (iI qs), .int (iI wd), .int (iI sm), .ref al, .ref aq, .ref ab]))] := hD
  refine lv_iload_n hx hb dX3_holds_5 rfl (lv_at hl 1 rfl) ?_
  refine zv_if_ne hx hb dX3_holds_6 (tgt := 13) (by decide) ⟨by omega, by omega⟩ (fun c_1 => ?_) (fun c_1 => ?_)
  · refine zv_iconst hx hb dX3_holds_13 ?_
    exact MM_zret (()) hx hb hr hlk hP hD hS (Nat.le_of_ble_eq_true rfl) (Nat.le_of_ble_eq_true rfl) dX3_holds_14 (by first | rfl | decide) (by omega)
  · refine zv_iconst hx hb dX3_holds_9 ?_
    refine lv_goto (tgt := 14) hx hb dX3_holds_10 (by decide) ?_
    exact MM_zret (()) hx hb hr hlk hP hD hS (Nat.le_of_ble_eq_true rfl) (Nat.le_of_ble_eq_true rfl) dX3_holds_14 (by first | rfl | decide) (by omega)
set_option maxRecDepth 100000 in
set_option maxHeartbeats 4000000 in
theorem c_X3_puts (l : Launch) (D : va_G) (cI cJ : ClassId) (mm ac ar al aq ab : Nat) (th C R lim np qb qs wd sm : Int) (x : Int) (hx0 : 0 ≤ x) (hx1 : x < 16807) (sz : Nat) : MMv l yX3_puts (.code yX3_puts cX3_puts 2 none) 0 0 0 [.ref mm, .int (iI x)] D cI cJ [(mm, .inr (3, [.int (iI th), .int (iI C), .int (iI R), .int (iI lim), .int (iI np), .ref ac, .ref ar, .int (iI qb), .int (iI qs), .int (iI wd), .int (iI sm), .ref al, .ref aq, .ref ab]))] sz (fun (u : Int × Int × Int) => u.1 = x / 343 ∧ u.2.1 = x % 343 ∧ u.2.2 = sm + 1) (fun u : Int × Int × Int => [(mm, .inr (3, [.int (iI th), .int (iI C), .int (iI R), .int (iI lim), .int (iI np), .ref ac, .ref ar, .int (iI qb), .int (iI u.1), .int (iI u.2.1), .int (iI u.2.2), .ref al, .ref aq, .ref ab]))]) := by
  refine MM_of (Qc := fun A => QMv D A (fun (u : Int × Int × Int) => u.1 = x / 343 ∧ u.2.1 = x % 343 ∧ u.2.2 = sm + 1) (fun u : Int × Int × Int => [(mm, .inr (3, [.int (iI th), .int (iI C), .int (iI R), .int (iI lim), .int (iI np), .ref ac, .ref ar, .int (iI qb), .int (iI u.1), .int (iI u.2.1), .int (iI u.2.2), .ref al, .ref aq, .ref ab]))])) (by decide) rfl (Nat.le_of_ble_eq_true rfl) (fun p e s m below meth c ls A hx hb hr hts hown hlk hml hin hK hP hD hA hS hl => ?_)
  have hl : lv_has ls 2 [(0, .ref mm), (1, .int (iI x))] := hl
  refine lv_aload_n hx hb dX3_puts_0 rfl (lv_at hl 0 rfl) ?_
  refine lv_iload_n hx hb dX3_puts_1 rfl (lv_at hl 1 rfl) ?_
  refine zv_sipush hx hb dX3_puts_2 (by decide) ?_
  refine zv_idiv hx hb dX3_puts_5 (by omega) (by omega) (by omega) (by omega) ?_
  refine va_put (D := D) (ci := 3) (v := .int (iI (x / 343))) (ty := .int) (C := RX3) (T := TX3) (N := 14) hx hb hts uX3 tyX3 tyX3_ok nmX3 hown hK.1 hP hD hS 0 rfl rfl 8 (by decide) (hts _ q_534) (fun _ h9 => h9) rfl (by decide +kernel) rfl rfl (Nat.le_of_ble_eq_true rfl) dX3_puts_6 (fun H locs hP hD hS => ?_)
  have hP : va_P D vwCl [(mm, .inr (3, [.int (iI th), .int (iI C), .int (iI R), .int (iI lim), .int (iI np), .ref ac, .ref ar, .int (iI qb), .int (iI (x / 343)), .int (iI wd), .int (iI sm), .ref al, .ref aq, .ref ab]))] H := hP
  have hD : va_D A [(mm, .inr (3, [.int (iI th), .int (iI C), .int (iI R), .int (iI lim), .int (iI np), .ref ac, .ref ar, .int (iI qb), .int (iI (x / 343)), .int (iI wd), .int (iI sm), .ref al, .ref aq, .ref ab]))] := hD
  refine lv_aload_n hx hb dX3_puts_9 rfl (lv_at hl 0 rfl) ?_
  refine lv_iload_n hx hb dX3_puts_10 rfl (lv_at hl 1 rfl) ?_
  refine zv_sipush hx hb dX3_puts_11 (by decide) ?_
  refine zv_irem hx hb dX3_puts_14 (by omega) (by omega) (by omega) (by omega) ?_
  refine va_put (D := D) (ci := 3) (v := .int (iI (x % 343))) (ty := .int) (C := RX3) (T := TX3) (N := 14) hx hb hts uX3 tyX3 tyX3_ok nmX3 hown hK.1 hP hD hS 0 rfl rfl 9 (by decide) (hts _ q_535) (fun _ h9 => h9) rfl (by decide +kernel) rfl rfl (Nat.le_of_ble_eq_true rfl) dX3_puts_15 (fun H locs hP hD hS => ?_)
  have hP : va_P D vwCl [(mm, .inr (3, [.int (iI th), .int (iI C), .int (iI R), .int (iI lim), .int (iI np), .ref ac, .ref ar, .int (iI qb), .int (iI (x / 343)), .int (iI (x % 343)), .int (iI sm), .ref al, .ref aq, .ref ab]))] H := hP
  have hD : va_D A [(mm, .inr (3, [.int (iI th), .int (iI C), .int (iI R), .int (iI lim), .int (iI np), .ref ac, .ref ar, .int (iI qb), .int (iI (x / 343)), .int (iI (x % 343)), .int (iI sm), .ref al, .ref aq, .ref ab]))] := hD
  refine lv_aload_n hx hb dX3_puts_18 rfl (lv_at hl 0 rfl) ?_
  refine lv_dup hx hb dX3_puts_19 rfl ?_
  refine va_get (D := D) (ci := 3) (v := .int (iI sm)) (C := RX3) (T := TX3) (N := 14) hx hb hts uX3 hown hK.1 hP 0 rfl rfl 10 (by decide) (hts _ q_536) (fun _ h9 => h9) rfl dX3_puts_20 ?_
  refine zv_iconst hx hb dX3_puts_23 ?_
  refine zv_iadd hx hb dX3_puts_24 ?_
  refine va_put (D := D) (ci := 3) (v := .int (iI (sm + 1))) (ty := .int) (C := RX3) (T := TX3) (N := 14) hx hb hts uX3 tyX3 tyX3_ok nmX3 hown hK.1 hP hD hS 0 rfl rfl 10 (by decide) (hts _ q_536) (fun _ h9 => h9) rfl (by decide +kernel) rfl rfl (Nat.le_of_ble_eq_true rfl) dX3_puts_25 (fun H locs hP hD hS => ?_)
  have hP : va_P D vwCl [(mm, .inr (3, [.int (iI th), .int (iI C), .int (iI R), .int (iI lim), .int (iI np), .ref ac, .ref ar, .int (iI qb), .int (iI (x / 343)), .int (iI (x % 343)), .int (iI (sm + 1)), .ref al, .ref aq, .ref ab]))] H := hP
  have hD : va_D A [(mm, .inr (3, [.int (iI th), .int (iI C), .int (iI R), .int (iI lim), .int (iI np), .ref ac, .ref ar, .int (iI qb), .int (iI (x / 343)), .int (iI (x % 343)), .int (iI (sm + 1)), .ref al, .ref aq, .ref ab]))] := hD
  exact MM_vret ((x / 343), (x % 343), (sm + 1)) hx hb hr hlk hP hD hS (Nat.le_of_ble_eq_true rfl) (Nat.le_of_ble_eq_true rfl) dX3_puts_28 (⟨rfl, rfl, rfl⟩)
set_option maxRecDepth 100000 in
set_option maxHeartbeats 4000000 in
theorem c_X3_searches (l : Launch) (D : va_G) (cI cJ : ClassId) (mm ac ar al aq ab : Nat) (th C R lim np qb qs wd sm : Int) (gc gr gl gq : Nat → Int) (N : Int → Int) (zs : Int) (hM : MdOK C R np N gc gr) (hzs : GdZ C R N zs) (hqb : 343 * qb = tauZ zs) (sz : Nat) : MMv l yX3_searches (.code yX3_searches cX3_searches 5 none) 4 0 0 [.ref mm] D cI cJ [(mm, .inr (3, [.int (iI th), .int (iI C), .int (iI R), .int (iI lim), .int (iI np), .ref ac, .ref ar, .int (iI qb), .int (iI qs), .int (iI wd), .int (iI sm), .ref al, .ref aq, .ref ab])), (ac, .inl (cI, 3, .inl (aI gc))), (ar, .inl (cI, 3, .inl (aI gr))), (al, .inl (cI, 16807, .inl (aI gl))), (aq, .inl (cI, 16807, .inl (aI gq)))] sz (fun (u : (Nat → Int) × (Nat → Int)) => MSOK (BF (aftZ C R N) zs) u.1 u.2) (fun u : (Nat → Int) × (Nat → Int) => [(mm, .inr (3, [.int (iI th), .int (iI C), .int (iI R), .int (iI lim), .int (iI np), .ref ac, .ref ar, .int (iI qb), .int (iI qs), .int (iI wd), .int (iI sm), .ref al, .ref aq, .ref ab])), (ac, .inl (cI, 3, .inl (aI gc))), (ar, .inl (cI, 3, .inl (aI gr))), (al, .inl (cI, 16807, .inl (aI u.1))), (aq, .inl (cI, 16807, .inl (aI u.2)))]) := by
  obtain ⟨hC1, hC2, hR1, hR2, hp1, hp2, -, -⟩ := id hM
  obtain ⟨hz0, hz1, -, -, -, -⟩ := id hzs
  have htz := tauZ_of hz0 hz1
  have hgd : ∀ z d : Int, 0 ≤ d → d ≤ 3 → GdZ C R N z → aftZ C R N z d ≠ -1 → GdZ C R N (aftZ C R N z d) := fun z d k1 k2 k3 k4 => (aftZ_back hM.Fl k3 k1 k2 k4).1
  refine MM_of (Qc := fun A => QMv D A (fun (u : (Nat → Int) × (Nat → Int)) => MSOK (BF (aftZ C R N) zs) u.1 u.2) (fun u : (Nat → Int) × (Nat → Int) => [(mm, .inr (3, [.int (iI th), .int (iI C), .int (iI R), .int (iI lim), .int (iI np), .ref ac, .ref ar, .int (iI qb), .int (iI qs), .int (iI wd), .int (iI sm), .ref al, .ref aq, .ref ab])), (ac, .inl (cI, 3, .inl (aI gc))), (ar, .inl (cI, 3, .inl (aI gr))), (al, .inl (cI, 16807, .inl (aI u.1))), (aq, .inl (cI, 16807, .inl (aI u.2)))])) (by decide) rfl (Nat.le_of_ble_eq_true rfl) (fun p e s m below meth c ls A hx hb hr hts hown hlk hml hin hK hP hD hA hS hl => ?_)
  have hl : lv_has ls 5 [(0, .ref mm)] := hl
  refine zv_iconst hx hb dX3_searches_0 ?_
  refine lv_istore_n (lv' := [(1, .int (iI 0)), (0, .ref mm)]) hx hb dX3_searches_1 rfl hl (by decide) rfl (fun ls hl => ?_)
  have loop2 : ∀ (nn : Nat) (i : Int) (f : Nat → Int), (0 ≤ i) → (i ≤ 16807) → (∀ k : Nat, (k : Int) < i → f k = -1) → (16807 - i < (nn : Int)) → ∀ (H : Heap) (locs : List Loc), va_P D vwCl [(mm, .inr (3, [.int (iI th), .int (iI C), .int (iI R), .int (iI lim), .int (iI np), .ref ac, .ref ar, .int (iI qb), .int (iI qs), .int (iI wd), .int (iI sm), .ref al, .ref aq, .ref ab])), (ac, .inl (cI, 3, .inl (aI gc))), (ar, .inl (cI, 3, .inl (aI gr))), (al, .inl (cI, 16807, .inl (aI f))), (aq, .inl (cI, 16807, .inl (aI gq)))] H → va_D A [(mm, .inr (3, [.int (iI th), .int (iI C), .int (iI R), .int (iI lim), .int (iI np), .ref ac, .ref ar, .int (iI qb), .int (iI qs), .int (iI wd), .int (iI sm), .ref al, .ref aq, .ref ab])), (ac, .inl (cI, 3, .inl (aI gc))), (ar, .inl (cI, 3, .inl (aI gr))), (al, .inl (cI, 16807, .inl (aI f))), (aq, .inl (cI, 16807, .inl (aI gq)))] → va_S A s.heap H locs → ∀ ls : Array Slot, lv_has ls 5 [(0, .ref mm), (1, .int (iI i))] → W p l e (rmM 4 0 0) s m [.ref mm].toArray below meth c H locs 0 0 (MQ below (QMv D A (fun (u : (Nat → Int) × (Nat → Int)) => MSOK (BF (aftZ C R N) zs) u.1 u.2) (fun u : (Nat → Int) × (Nat → Int) => [(mm, .inr (3, [.int (iI th), .int (iI C), .int (iI R), .int (iI lim), .int (iI np), .ref ac, .ref ar, .int (iI qb), .int (iI qs), .int (iI wd), .int (iI sm), .ref al, .ref aq, .ref ab])), (ac, .inl (cI, 3, .inl (aI gc))), (ar, .inl (cI, 3, .inl (aI gr))), (al, .inl (cI, 16807, .inl (aI u.1))), (aq, .inl (cI, 16807, .inl (aI u.2)))])) [.ref mm].toArray s 0 0 A) (F0 m 2 ls []) := by
    intro nn
    induction nn with
    | zero => intro i f hi0 hi1 hf hms; exfalso; omega
    | succ nn ih2 =>
      intro i f hi0 hi1 hf hms H locs hP hD hS ls hl
      refine lv_iload_n hx hb dX3_searches_2 rfl (lv_at hl 1 rfl) ?_
      refine zv_sipush hx hb dX3_searches_3 (by decide) ?_
      refine zv_icmp_ge hx hb dX3_searches_6 (tgt := 22) (by decide) ⟨by omega, by omega⟩ ⟨by omega, by omega⟩ (fun c_1 => ?_) (fun c_1 => ?_)
      · refine zv_iconst hx hb dX3_searches_22 ?_
        refine lv_istore_n (lv' := [(1, .int (iI 1)), (0, .ref mm)]) hx hb dX3_searches_23 rfl hl (by decide) rfl (fun ls hl => ?_)
        refine lv_aload_n hx hb dX3_searches_24 rfl (lv_at hl 1 rfl) ?_
        refine va_get (D := D) (ci := 3) (v := .ref aq) (C := RX3) (T := TX3) (N := 14) hx hb hts uX3 hown hK.1 hP 0 rfl rfl 12 (by decide) (hts _ q_538) (fun _ h9 => h9) rfl dX3_searches_25 ?_
        refine zv_iconst hx hb dX3_searches_28 ?_
        refine zv_sipush hx hb dX3_searches_29 (by decide) ?_
        refine lv_aload_n hx hb dX3_searches_32 rfl (lv_at hl 1 rfl) ?_
        refine va_get (D := D) (ci := 3) (v := .int (iI qb)) (C := RX3) (T := TX3) (N := 14) hx hb hts uX3 hown hK.1 hP 0 rfl rfl 7 (by decide) (hts _ q_533) (fun _ h9 => h9) rfl dX3_searches_33 ?_
        refine zv_imul hx hb dX3_searches_36 ?_
        refine zv_iast hx hb hK.1 hP hD hS 4 0 rfl rfl (by omega) (by omega) (by omega) (ws' := [(mm, .inr (3, [.int (iI th), .int (iI C), .int (iI R), .int (iI lim), .int (iI np), .ref ac, .ref ar, .int (iI qb), .int (iI qs), .int (iI wd), .int (iI sm), .ref al, .ref aq, .ref ab])), (ac, .inl (cI, 3, .inl (aI gc))), (ar, .inl (cI, 3, .inl (aI gr))), (al, .inl (cI, 16807, .inl (aI f))), (aq, .inl (cI, 16807, .inl (aI (updZ gq 0 (343 * qb)))))]) rfl dX3_searches_37 (fun H locs hP hD hS => ?_)
        refine lv_aload_n hx hb dX3_searches_38 rfl (lv_at hl 1 rfl) ?_
        refine va_get (D := D) (ci := 3) (v := .ref al) (C := RX3) (T := TX3) (N := 14) hx hb hts uX3 hown hK.1 hP 0 rfl rfl 11 (by decide) (hts _ q_537) (fun _ h9 => h9) rfl dX3_searches_39 ?_
        refine lv_aload_n hx hb dX3_searches_42 rfl (lv_at hl 1 rfl) ?_
        refine va_get (D := D) (ci := 3) (v := .ref aq) (C := RX3) (T := TX3) (N := 14) hx hb hts uX3 hown hK.1 hP 0 rfl rfl 12 (by decide) (hts _ q_538) (fun _ h9 => h9) rfl dX3_searches_43 ?_
        refine zv_iconst hx hb dX3_searches_46 ?_
        refine zv_iald hx hb hK.1 hP 4 0 rfl rfl (by omega) (by omega) (by omega) dX3_searches_47 ?_
        refine zv_top (y := tauZ zs) (by rw [← hqb]; exact updZ_s _ _ _) ?_
        refine zv_iconst hx hb dX3_searches_48 ?_
        refine zv_iast hx hb hK.1 hP hD hS 3 0 rfl rfl (by omega) (by omega) (by omega) (ws' := [(mm, .inr (3, [.int (iI th), .int (iI C), .int (iI R), .int (iI lim), .int (iI np), .ref ac, .ref ar, .int (iI qb), .int (iI qs), .int (iI wd), .int (iI sm), .ref al, .ref aq, .ref ab])), (ac, .inl (cI, 3, .inl (aI gc))), (ar, .inl (cI, 3, .inl (aI gr))), (al, .inl (cI, 16807, .inl (aI (updZ f (tauZ zs).toNat 0)))), (aq, .inl (cI, 16807, .inl (aI (updZ gq 0 (343 * qb)))))]) rfl dX3_searches_49 (fun H locs hP hD hS => ?_)
        refine zv_iconst hx hb dX3_searches_50 ?_
        have hm0 : MSOK (bs0 zs) _ _ := MSOK_0 (gq := gq) hz0 hz1 (fun k hk => hf k (by omega))
        refine lv_istore_n (lv' := [(2, .int (iI 0)), (1, .int (iI 1)), (0, .ref mm)]) hx hb dX3_searches_51 rfl hl (by decide) rfl (fun ls hl => ?_)
        have loop52 : ∀ (nn : Nat) (la i : Int) (S : BS) (g : Nat → Int) (h : Nat → Int), (0 ≤ i) → (i ≤ la) → (la = (S.1.length : Int)) → (bsG (aftZ C R N) (16807 - i.toNat) i.toNat S = BF (aftZ C R N) zs) → (BI (aftZ C R N) zs (GdZ C R N) S i.toNat 0) → (MSOK S g h) → (∀ z, S.2.1 z < (S.1.length : Int)) → (16807 - i < (nn : Int)) → ∀ (H : Heap) (locs : List Loc), va_P D vwCl [(mm, .inr (3, [.int (iI th), .int (iI C), .int (iI R), .int (iI lim), .int (iI np), .ref ac, .ref ar, .int (iI qb), .int (iI qs), .int (iI wd), .int (iI sm), .ref al, .ref aq, .ref ab])), (ac, .inl (cI, 3, .inl (aI gc))), (ar, .inl (cI, 3, .inl (aI gr))), (al, .inl (cI, 16807, .inl (aI g))), (aq, .inl (cI, 16807, .inl (aI h)))] H → va_D A [(mm, .inr (3, [.int (iI th), .int (iI C), .int (iI R), .int (iI lim), .int (iI np), .ref ac, .ref ar, .int (iI qb), .int (iI qs), .int (iI wd), .int (iI sm), .ref al, .ref aq, .ref ab])), (ac, .inl (cI, 3, .inl (aI gc))), (ar, .inl (cI, 3, .inl (aI gr))), (al, .inl (cI, 16807, .inl (aI g))), (aq, .inl (cI, 16807, .inl (aI h)))] → va_S A s.heap H locs → ∀ ls : Array Slot, lv_has ls 5 [(0, .ref mm), (1, .int (iI la)), (2, .int (iI i))] → W p l e (rmM 4 0 0) s m [.ref mm].toArray below meth c H locs 0 0 (MQ below (QMv D A (fun (u : (Nat → Int) × (Nat → Int)) => MSOK (BF (aftZ C R N) zs) u.1 u.2) (fun u : (Nat → Int) × (Nat → Int) => [(mm, .inr (3, [.int (iI th), .int (iI C), .int (iI R), .int (iI lim), .int (iI np), .ref ac, .ref ar, .int (iI qb), .int (iI qs), .int (iI wd), .int (iI sm), .ref al, .ref aq, .ref ab])), (ac, .inl (cI, 3, .inl (aI gc))), (ar, .inl (cI, 3, .inl (aI gr))), (al, .inl (cI, 16807, .inl (aI u.1))), (aq, .inl (cI, 16807, .inl (aI u.2)))])) [.ref mm].toArray s 0 0 A) (F0 m 52 ls []) := by
          intro nn
          induction nn with
          | zero => intro la i S g h hi0 hi1 hla hG hBI hms2 hbd hms; exfalso; (have := gd_len hBI.1 hBI.2.2.2.1); omega
          | succ nn ih52 =>
            intro la i S g h hi0 hi1 hla hG hBI hms2 hbd hms H locs hP hD hS ls hl
            have hln := gd_len hBI.1 hBI.2.2.2.1
            refine lv_iload_n hx hb dX3_searches_52 rfl (lv_at hl 2 rfl) ?_
            refine lv_iload_n hx hb dX3_searches_53 rfl (lv_at hl 1 rfl) ?_
            refine zv_icmp_ge hx hb dX3_searches_54 (tgt := 137) (by decide) ⟨by omega, by omega⟩ ⟨by omega, by omega⟩ (fun c_2 => ?_) (fun c_2 => ?_)
            · exact MM_vret (g, h) hx hb hr hlk hP hD hS (Nat.le_of_ble_eq_true rfl) (Nat.le_of_ble_eq_true rfl) dX3_searches_137 (by rw [← bsG_e hG (by omega)]; exact hms2)
            · have hil : i.toNat < S.1.length := by omega
              have hgf := hBI.2.2.2.1 _ (List.mem_of_getElem? (bsAt_some hil))
              obtain ⟨hf0, hf1, hf2⟩ := hgf.pl
              have htf := tauZ_of hf0 hf1
              refine zv_iconst hx hb dX3_searches_57 ?_
              refine lv_istore_n (lv' := [(3, .int (iI 0)), (0, .ref mm), (1, .int (iI la)), (2, .int (iI i))]) hx hb dX3_searches_58 rfl hl (by decide) rfl (fun ls hl => ?_)
              have loop59 : ∀ (nn : Nat) (le dd : Int) (f : Nat → Int) (fh : Nat → Int), (0 ≤ dd) → (dd ≤ 4) → (le = ((bsK (aftZ C R N) S (bsAt S i.toNat) dd.toNat).1.length : Int)) → (MSOK (bsK (aftZ C R N) S (bsAt S i.toNat) dd.toNat) f fh) → (∀ z, (bsK (aftZ C R N) S (bsAt S i.toNat) dd.toNat).2.1 z < ((bsK (aftZ C R N) S (bsAt S i.toNat) dd.toNat).1.length : Int)) → (4 - dd < (nn : Int)) → ∀ (H : Heap) (locs : List Loc), va_P D vwCl [(mm, .inr (3, [.int (iI th), .int (iI C), .int (iI R), .int (iI lim), .int (iI np), .ref ac, .ref ar, .int (iI qb), .int (iI qs), .int (iI wd), .int (iI sm), .ref al, .ref aq, .ref ab])), (ac, .inl (cI, 3, .inl (aI gc))), (ar, .inl (cI, 3, .inl (aI gr))), (al, .inl (cI, 16807, .inl (aI f))), (aq, .inl (cI, 16807, .inl (aI fh)))] H → va_D A [(mm, .inr (3, [.int (iI th), .int (iI C), .int (iI R), .int (iI lim), .int (iI np), .ref ac, .ref ar, .int (iI qb), .int (iI qs), .int (iI wd), .int (iI sm), .ref al, .ref aq, .ref ab])), (ac, .inl (cI, 3, .inl (aI gc))), (ar, .inl (cI, 3, .inl (aI gr))), (al, .inl (cI, 16807, .inl (aI f))), (aq, .inl (cI, 16807, .inl (aI fh)))] → va_S A s.heap H locs → ∀ ls : Array Slot, lv_has ls 5 [(0, .ref mm), (1, .int (iI le)), (2, .int (iI i)), (3, .int (iI dd))] → W p l e (rmM 4 0 0) s m [.ref mm].toArray below meth c H locs 0 0 (MQ below (QMv D A (fun (u : (Nat → Int) × (Nat → Int)) => MSOK (BF (aftZ C R N) zs) u.1 u.2) (fun u : (Nat → Int) × (Nat → Int) => [(mm, .inr (3, [.int (iI th), .int (iI C), .int (iI R), .int (iI lim), .int (iI np), .ref ac, .ref ar, .int (iI qb), .int (iI qs), .int (iI wd), .int (iI sm), .ref al, .ref aq, .ref ab])), (ac, .inl (cI, 3, .inl (aI gc))), (ar, .inl (cI, 3, .inl (aI gr))), (al, .inl (cI, 16807, .inl (aI u.1))), (aq, .inl (cI, 16807, .inl (aI u.2)))])) [.ref mm].toArray s 0 0 A) (F0 m 59 ls []) := by
                intro nn
                induction nn with
                | zero => intro le dd f fh hd0 hd1 hle hsq hbe hms; exfalso; omega
                | succ nn ih59 =>
                  intro le dd f fh hd0 hd1 hle hsq hbe hms H locs hP hD hS ls hl
                  have hBK := BI_K hBI (bsAt_some hil) (fun d k1 k2 => hgd _ d k1 k2) dd.toNat (by omega)
                  have hKi := bsAt_K (aftZ C R N) S (bsAt S i.toNat) dd.toNat hil
                  have hqi := hsq.2 _ hKi.1
                  rw [hKi.2] at hqi
                  have hlk := gd_len hBK.1 hBK.2.2.2.1
                  have hmf := hBK.2.2.1 (bsAt S i.toNat)
                  have hmg : 0 ≤ (bsK (aftZ C R N) S (bsAt S i.toNat) dd.toNat).2.1 (bsAt S i.toNat) := by rcases hmf with k | k <;> first | exact k.1 | exact absurd (List.mem_of_getElem? (bsK_at _ _ _ _ _ _ (bsAt_some hil))) k.2
                  have hbf := hbe (bsAt S i.toNat)
                  have hm := aftZ_ok hM.Fl (d := dd) hgf.pl
                  have hm : aftZ C R N (bsAt S i.toNat) dd = -1 ∨ (0 ≤ aftZ C R N (bsAt S i.toNat) dd ∧ aftZ C R N (bsAt S i.toNat) dd < 16807) := hm.elim Or.inl (fun k => Or.inr ⟨k.1, k.2.1⟩)
                  have htm := tM_b hm
                  have hLb := hsq.1.b (aftZ C R N (bsAt S i.toNat) dd)
                  have hLf := hsq.1.b (bsAt S i.toNat)
                  refine lv_iload_n hx hb dX3_searches_59 rfl (lv_at hl 3 rfl) ?_
                  refine zv_iconst hx hb dX3_searches_60 ?_
                  refine zv_icmp_ge hx hb dX3_searches_61 (tgt := 131) (by decide) ⟨by omega, by omega⟩ ⟨by omega, by omega⟩ (fun c_3 => ?_) (fun c_3 => ?_)
                  · have hd4 : dd.toNat = 4 := by omega
                    refine zv_iinc (k := 2) (lv' := [(2, .int (iI (i + 1))), (0, .ref mm), (1, .int (iI le)), (3, .int (iI dd))]) hx hb dX3_searches_131 hl rfl (by decide) rfl (fun ls hl => ?_)
                    refine lv_goto (tgt := 52) hx hb dX3_searches_134 (by decide) ?_
                    exact ih52 le (i + 1) (bsK (aftZ C R N) S (bsAt S i.toNat) 4) f fh (by omega) (by omega) (by rw [← hd4]; exact hle) (by rw [show (i + 1).toNat = i.toNat + 1 by omega, show 16807 - (i.toNat + 1) = 16806 - i.toNat by omega]; exact bsG_s (by rw [show 16806 - i.toNat + 1 = 16807 - i.toNat by omega]; exact hG) hil) (by rw [show (i + 1).toNat = i.toNat + 1 by omega]; exact BI_i (by rw [← hd4]; exact hBK) (by omega)) (by rw [← hd4]; exact hsq) (by rw [← hd4]; exact hbe) (by omega) _ _ hP hD hS ls (lv_sub hl [1, 2, 0] rfl)
                  · refine lv_aload_n hx hb dX3_searches_64 rfl (lv_at hl 0 rfl) ?_
                    refine lv_aload_n hx hb dX3_searches_65 rfl (lv_at hl 0 rfl) ?_
                    refine va_get (D := D) (ci := 3) (v := .ref aq) (C := RX3) (T := TX3) (N := 14) hx hb hts uX3 hown hK.1 hP 0 rfl rfl 12 (by decide) (hts _ q_538) (fun _ h9 => h9) rfl dX3_searches_66 ?_
                    refine lv_iload_n hx hb dX3_searches_69 rfl (lv_at hl 2 rfl) ?_
                    refine zv_iald hx hb hK.1 hP 4 0 rfl rfl (by omega) (by omega) (by omega) dX3_searches_70 ?_
                    refine zv_top (y := tauZ (bsAt S i.toNat)) (hqi) ?_
                    refine lv_iload_n hx hb dX3_searches_71 rfl (lv_at hl 3 rfl) ?_
                    refine zc_V (As := [.int (iI (tauZ (bsAt S i.toNat))), .int (iI dd)]) (rest := []) (ws := [(mm, .inr (3, [.int (iI th), .int (iI C), .int (iI R), .int (iI lim), .int (iI np), .ref ac, .ref ar, .int (iI qb), .int (iI qs), .int (iI wd), .int (iI sm), .ref al, .ref aq, .ref ab])), (ac, .inl (cI, 3, .inl (aI gc))), (ar, .inl (cI, 3, .inl (aI gr))), (al, .inl (cI, 16807, .inl (aI f))), (aq, .inl (cI, 16807, .inl (aI fh)))]) (n := 2) hx hb (hml.trans hl.1.symm) hts hown hK hP (c_X3_after l D cI cJ mm ac ar al aq ab th C R lim np qb qs wd sm gc gr N (tauZ (bsAt S i.toNat)) dd hM (by omega) (by omega) (by omega) (by omega) (by omega)) (gd_V q_489 q_491 q_1015 q_6 q_492) (by decide +kernel) rfl ⟨Nat.le_of_ble_eq_true rfl, Nat.le_of_ble_eq_true rfl⟩ ⟨Nat.le_of_ble_eq_true rfl, Nat.le_of_ble_eq_true rfl⟩ [0, 1, 2] rfl 0 (ci := 3) rfl rfl rfl rfl (Nat.le_of_ble_eq_true rfl) dX3_searches_72 (fun r_4 hr_4 => ?_)
                    subst r_4
                    refine zv_top (y := tM (aftZ C R N (bsAt S i.toNat) dd)) (by rw [tauZ_tauZ hf0 hf1]) ?_
                    refine lv_istore (lv' := [(4, .int (iI (tM (aftZ C R N (bsAt S i.toNat) dd)))), (0, .ref mm), (1, .int (iI le)), (2, .int (iI i)), (3, .int (iI dd))]) hx hb dX3_searches_75 hl (by decide) rfl (fun ls hl => ?_)
                    refine lv_iload hx hb dX3_searches_77 (lv_at hl 0 rfl) ?_
                    refine zv_iconst hx hb dX3_searches_79 ?_
                    refine zv_icmp_eq hx hb dX3_searches_80 (tgt := 125) (by decide) ⟨by omega, by omega⟩ ⟨by omega, by omega⟩ (fun c_5 => ?_) (fun c_5 => ?_)
                    · refine zv_iinc (k := 4) (lv' := [(3, .int (iI (dd + 1))), (4, .int (iI (tM (aftZ C R N (bsAt S i.toNat) dd)))), (0, .ref mm), (1, .int (iI le)), (2, .int (iI i))]) hx hb dX3_searches_125 hl rfl (by decide) rfl (fun ls hl => ?_)
                      refine lv_goto (tgt := 59) hx hb dX3_searches_128 (by decide) ?_
                      have hq9 : ¬ (aftZ C R N (bsAt S i.toNat) dd ≠ -1 ∧ (bsK (aftZ C R N) S (bsAt S i.toNat) dd.toNat).2.1 (aftZ C R N (bsAt S i.toNat) dd) = -1) := by omega
                      have hK1 : bsK (aftZ C R N) S (bsAt S i.toNat) (dd + 1).toNat = bsR (bsK (aftZ C R N) S (bsAt S i.toNat) dd.toNat) (aftZ C R N (bsAt S i.toNat) dd) (bsAt S i.toNat) := by rw [show (dd + 1).toNat = dd.toNat + 1 by omega]; show bsR _ (aftZ C R N (bsAt S i.toNat) (dd.toNat : Int)) _ = _; rw [Int.toNat_of_nonneg hd0]
                      exact ih59 le (dd + 1) f fh (by omega) (by omega) (by rw [hK1, bsR_no hq9]; exact hle) (by rw [hK1, bsR_no hq9]; exact hsq) (by rw [hK1, bsR_no hq9]; exact hbe) (by omega) _ _ hP hD hS ls (lv_sub hl [2, 3, 4, 0] rfl)
                    · refine lv_aload_n hx hb dX3_searches_83 rfl (lv_at hl 1 rfl) ?_
                      refine va_get (D := D) (ci := 3) (v := .ref al) (C := RX3) (T := TX3) (N := 14) hx hb hts uX3 hown hK.1 hP 0 rfl rfl 11 (by decide) (hts _ q_537) (fun _ h9 => h9) rfl dX3_searches_84 ?_
                      refine lv_iload hx hb dX3_searches_87 (lv_at hl 0 rfl) ?_
                      refine zv_iald hx hb hK.1 hP 3 0 rfl rfl (by omega) (by omega) (by omega) dX3_searches_89 ?_
                      refine zv_top (y := ((bsK (aftZ C R N) S (bsAt S i.toNat) dd.toNat).2.1 (aftZ C R N (bsAt S i.toNat) dd))) (hsq.1.tm hm (by assumption)) ?_
                      refine zv_iconst hx hb dX3_searches_90 ?_
                      refine zv_icmp_ne hx hb dX3_searches_91 (tgt := 125) (by decide) ⟨by omega, by omega⟩ ⟨by omega, by omega⟩ (fun c_6 => ?_) (fun c_6 => ?_)
                      · refine zv_iinc (k := 4) (lv' := [(3, .int (iI (dd + 1))), (4, .int (iI (tM (aftZ C R N (bsAt S i.toNat) dd)))), (0, .ref mm), (1, .int (iI le)), (2, .int (iI i))]) hx hb dX3_searches_125 hl rfl (by decide) rfl (fun ls hl => ?_)
                        refine lv_goto (tgt := 59) hx hb dX3_searches_128 (by decide) ?_
                        have hq9 : ¬ (aftZ C R N (bsAt S i.toNat) dd ≠ -1 ∧ (bsK (aftZ C R N) S (bsAt S i.toNat) dd.toNat).2.1 (aftZ C R N (bsAt S i.toNat) dd) = -1) := by omega
                        have hK1 : bsK (aftZ C R N) S (bsAt S i.toNat) (dd + 1).toNat = bsR (bsK (aftZ C R N) S (bsAt S i.toNat) dd.toNat) (aftZ C R N (bsAt S i.toNat) dd) (bsAt S i.toNat) := by rw [show (dd + 1).toNat = dd.toNat + 1 by omega]; show bsR _ (aftZ C R N (bsAt S i.toNat) (dd.toNat : Int)) _ = _; rw [Int.toNat_of_nonneg hd0]
                        exact ih59 le (dd + 1) f fh (by omega) (by omega) (by rw [hK1, bsR_no hq9]; exact hle) (by rw [hK1, bsR_no hq9]; exact hsq) (by rw [hK1, bsR_no hq9]; exact hbe) (by omega) _ _ hP hD hS ls (lv_sub hl [2, 3, 4, 0] rfl)
                      · refine lv_aload_n hx hb dX3_searches_94 rfl (lv_at hl 1 rfl) ?_
                        refine va_get (D := D) (ci := 3) (v := .ref al) (C := RX3) (T := TX3) (N := 14) hx hb hts uX3 hown hK.1 hP 0 rfl rfl 11 (by decide) (hts _ q_537) (fun _ h9 => h9) rfl dX3_searches_95 ?_
                        refine lv_iload hx hb dX3_searches_98 (lv_at hl 0 rfl) ?_
                        refine lv_aload_n hx hb dX3_searches_100 rfl (lv_at hl 1 rfl) ?_
                        refine va_get (D := D) (ci := 3) (v := .ref al) (C := RX3) (T := TX3) (N := 14) hx hb hts uX3 hown hK.1 hP 0 rfl rfl 11 (by decide) (hts _ q_537) (fun _ h9 => h9) rfl dX3_searches_101 ?_
                        refine lv_aload_n hx hb dX3_searches_104 rfl (lv_at hl 1 rfl) ?_
                        refine va_get (D := D) (ci := 3) (v := .ref aq) (C := RX3) (T := TX3) (N := 14) hx hb hts uX3 hown hK.1 hP 0 rfl rfl 12 (by decide) (hts _ q_538) (fun _ h9 => h9) rfl dX3_searches_105 ?_
                        refine lv_iload_n hx hb dX3_searches_108 rfl (lv_at hl 3 rfl) ?_
                        refine zv_iald hx hb hK.1 hP 4 0 rfl rfl (by omega) (by omega) (by omega) dX3_searches_109 ?_
                        refine zv_top (y := tauZ (bsAt S i.toNat)) (hqi) ?_
                        refine zv_iald hx hb hK.1 hP 3 0 rfl rfl (by omega) (by omega) (by omega) dX3_searches_110 ?_
                        refine zv_top (y := ((bsK (aftZ C R N) S (bsAt S i.toNat) dd.toNat).2.1 (bsAt S i.toNat))) (hsq.1.1 _ hf0 hf1) ?_
                        refine zv_iconst hx hb dX3_searches_111 ?_
                        refine zv_iadd hx hb dX3_searches_112 ?_
                        refine zv_iast hx hb hK.1 hP hD hS 3 0 rfl rfl (by omega) (by omega) (by omega) (ws' := [(mm, .inr (3, [.int (iI th), .int (iI C), .int (iI R), .int (iI lim), .int (iI np), .ref ac, .ref ar, .int (iI qb), .int (iI qs), .int (iI wd), .int (iI sm), .ref al, .ref aq, .ref ab])), (ac, .inl (cI, 3, .inl (aI gc))), (ar, .inl (cI, 3, .inl (aI gr))), (al, .inl (cI, 16807, .inl (aI (updZ f (tM (aftZ C R N (bsAt S i.toNat) dd)).toNat (((bsK (aftZ C R N) S (bsAt S i.toNat) dd.toNat).2.1 (bsAt S i.toNat)) + 1))))), (aq, .inl (cI, 16807, .inl (aI fh)))]) rfl dX3_searches_113 (fun H locs hP hD hS => ?_)
                        refine lv_aload_n hx hb dX3_searches_114 rfl (lv_at hl 1 rfl) ?_
                        refine va_get (D := D) (ci := 3) (v := .ref aq) (C := RX3) (T := TX3) (N := 14) hx hb hts uX3 hown hK.1 hP 0 rfl rfl 12 (by decide) (hts _ q_538) (fun _ h9 => h9) rfl dX3_searches_115 ?_
                        refine lv_iload_n hx hb dX3_searches_118 rfl (lv_at hl 2 rfl) ?_
                        refine lv_iload hx hb dX3_searches_119 (lv_at hl 0 rfl) ?_
                        refine zv_iast hx hb hK.1 hP hD hS 4 0 rfl rfl (by omega) (by omega) (by omega) (ws' := [(mm, .inr (3, [.int (iI th), .int (iI C), .int (iI R), .int (iI lim), .int (iI np), .ref ac, .ref ar, .int (iI qb), .int (iI qs), .int (iI wd), .int (iI sm), .ref al, .ref aq, .ref ab])), (ac, .inl (cI, 3, .inl (aI gc))), (ar, .inl (cI, 3, .inl (aI gr))), (al, .inl (cI, 16807, .inl (aI (updZ f (tM (aftZ C R N (bsAt S i.toNat) dd)).toNat (((bsK (aftZ C R N) S (bsAt S i.toNat) dd.toNat).2.1 (bsAt S i.toNat)) + 1))))), (aq, .inl (cI, 16807, .inl (aI (updZ fh (le).toNat (tM (aftZ C R N (bsAt S i.toNat) dd))))))]) rfl dX3_searches_121 (fun H locs hP hD hS => ?_)
                        refine zv_iinc (k := 2) (lv' := [(1, .int (iI (le + 1))), (4, .int (iI (tM (aftZ C R N (bsAt S i.toNat) dd)))), (0, .ref mm), (2, .int (iI i)), (3, .int (iI dd))]) hx hb dX3_searches_122 hl rfl (by decide) rfl (fun ls hl => ?_)
                        refine zv_iinc (k := 4) (lv' := [(3, .int (iI (dd + 1))), (1, .int (iI (le + 1))), (4, .int (iI (tM (aftZ C R N (bsAt S i.toNat) dd)))), (0, .ref mm), (2, .int (iI i))]) hx hb dX3_searches_125 hl rfl (by decide) rfl (fun ls hl => ?_)
                        refine lv_goto (tgt := 59) hx hb dX3_searches_128 (by decide) ?_
                        have hq9 : aftZ C R N (bsAt S i.toNat) dd ≠ -1 ∧ (bsK (aftZ C R N) S (bsAt S i.toNat) dd.toNat).2.1 (aftZ C R N (bsAt S i.toNat) dd) = -1 := ⟨by omega, by assumption⟩
                        have hBd := BI_d hBK (bsK_at _ _ _ _ _ _ (bsAt_some hil)) (by omega) (by omega) (fun k1 k2 => hgd _ _ (by omega) (by omega) k1 k2)
                        rw [Int.toNat_of_nonneg hd0] at hBd
                        have hR9 := MSOK_R hsq hq9 (by omega) (by omega) hmg (by omega)
                        have hp9 := (bsAt_push (f := bsAt S i.toNat) hq9).2.2
                        rw [show tauZ (aftZ C R N (bsAt S i.toNat) dd) = tM (aftZ C R N (bsAt S i.toNat) dd) by omega, show (bsK (aftZ C R N) S (bsAt S i.toNat) dd.toNat).1.length = le.toNat by omega] at hR9
                        have hK1 : bsK (aftZ C R N) S (bsAt S i.toNat) (dd + 1).toNat = bsR (bsK (aftZ C R N) S (bsAt S i.toNat) dd.toNat) (aftZ C R N (bsAt S i.toNat) dd) (bsAt S i.toNat) := by rw [show (dd + 1).toNat = dd.toNat + 1 by omega]; show bsR _ (aftZ C R N (bsAt S i.toNat) (dd.toNat : Int)) _ = _; rw [Int.toNat_of_nonneg hd0]
                        exact ih59 (le + 1) (dd + 1) (updZ f (tM (aftZ C R N (bsAt S i.toNat) dd)).toNat (((bsK (aftZ C R N) S (bsAt S i.toNat) dd.toNat).2.1 (bsAt S i.toNat)) + 1)) (updZ fh (le).toNat (tM (aftZ C R N (bsAt S i.toNat) dd))) (by omega) (by omega) (by rw [hK1, hp9]; omega) (by rw [hK1]; exact hR9) (by rw [hK1]; exact bsR_b hbe) (by omega) _ _ hP hD hS ls (lv_sub hl [3, 1, 4, 0] rfl)
              exact loop59 5 la 0 g h (by omega) (by omega) hla hms2 hbd (by omega) _ _ hP hD hS ls (lv_sub hl [1, 2, 3, 0] rfl)
        exact loop52 16808 1 0 (bs0 zs) (updZ f (tauZ zs).toNat 0) (updZ gq 0 (343 * qb)) (by omega) (by omega) rfl rfl (BI_0 hzs) (by rw [hqb]; exact hm0) (fun z => by show (if z = zs then (0 : Int) else -1) < 1; split <;> omega) (by omega) _ _ hP hD hS ls (lv_sub hl [2, 1, 0] rfl)
      · refine lv_aload_n hx hb dX3_searches_9 rfl (lv_at hl 0 rfl) ?_
        refine va_get (D := D) (ci := 3) (v := .ref al) (C := RX3) (T := TX3) (N := 14) hx hb hts uX3 hown hK.1 hP 0 rfl rfl 11 (by decide) (hts _ q_537) (fun _ h9 => h9) rfl dX3_searches_10 ?_
        refine lv_iload_n hx hb dX3_searches_13 rfl (lv_at hl 1 rfl) ?_
        refine zv_iconst hx hb dX3_searches_14 ?_
        refine zv_iast hx hb hK.1 hP hD hS 3 0 rfl rfl (by omega) (by omega) (by omega) (ws' := [(mm, .inr (3, [.int (iI th), .int (iI C), .int (iI R), .int (iI lim), .int (iI np), .ref ac, .ref ar, .int (iI qb), .int (iI qs), .int (iI wd), .int (iI sm), .ref al, .ref aq, .ref ab])), (ac, .inl (cI, 3, .inl (aI gc))), (ar, .inl (cI, 3, .inl (aI gr))), (al, .inl (cI, 16807, .inl (aI (updZ f (i).toNat (-1))))), (aq, .inl (cI, 16807, .inl (aI gq)))]) rfl dX3_searches_15 (fun H locs hP hD hS => ?_)
        refine zv_iinc (k := 1) (lv' := [(1, .int (iI (i + 1))), (0, .ref mm)]) hx hb dX3_searches_16 hl rfl (by decide) rfl (fun ls hl => ?_)
        refine lv_goto (tgt := 2) hx hb dX3_searches_19 (by decide) ?_
        exact ih2 (i + 1) (updZ f (i).toNat (-1)) (by omega) (by omega) (updZ_to hf (by omega)) (by omega) _ _ hP hD hS ls (lv_sub hl [1, 0] rfl)
  exact loop2 16808 0 gl (by omega) (by omega) (fun k hk => absurd hk (by omega)) (by omega) _ _ hP hD hS ls (lv_sub hl [1, 0] rfl)
