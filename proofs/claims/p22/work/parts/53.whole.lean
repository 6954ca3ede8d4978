set_option maxRecDepth 100000 in
set_option maxHeartbeats 8000000 in
theorem whole_start {p : Program} {e : Env} {s : State} {m : MethodId} {below : List Frame} {meth : Method} {c : Code} (l : Launch) (hflags : l.flags = flags0) {b L : Nat} {xs : Nat → Int32} (hL : L ≤ 260) (C0 : lw_At p s m meth c b L xs) : W p l e room_1 s m #[Value.ref b] below meth c s.heap [] 0 0 (lw_Z below #[Value.ref b] s) (entryFrame m ([Value.ref b] : List Value).toArray 9) := by
  obtain ⟨hx, hb, hr, hml, hown0, htbl, hX, hbl, hlk, hgv⟩ := id C0
  have hts := gw_lw htbl
  have hown : s.vm.findClass RL = some m.cls := hown0
  have hl0 := law_hl hflags
  obtain ⟨D, cI, cJ, hK⟩ := law_KK htbl
  have hE := law_EX htbl hgv
  obtain ⟨A, hAd⟩ : ∃ A : Nat → Prop, A = fun q : Nat => s.heap.size ≤ q := ⟨_, rfl⟩
  rw [← hAd] at hE
  have hA : ∀ q : Nat, s.heap.size ≤ q → A q := by rw [hAd]; exact fun _ h => h
  have hA2 : ∀ q : Nat, A q → s.heap.size ≤ q := by rw [hAd]; exact fun _ h => h
  have hbA : ¬ A b := fun h => absurd (hA2 b h) (Nat.not_le.mpr hbl)
  have hS : va_S A s.heap s.heap [] := va_S.rf
  have hP : va_P D vwCl [] s.heap := fun k q h => by simp at h
  have hD : va_D A [] := ⟨fun i j p q h => by simp at h, fun k q h => by simp at h⟩
  have hl := lv_entry ([.ref b]) (n := 9) (Nat.le_of_ble_eq_true rfl)
  rw [lg_entry_eq]
  generalize (lg_sl ([.ref b]) ++ List.replicate (9 - (lg_sl ([.ref b])).length) Slot.unset).toArray = ls at hl ⊢
  have hl : lv_has ls 9 [(0, .ref b)] := hl
  refine zv_iconst hx hb dL_law_0 ?_
  refine lv_aload_n hx hb dL_law_1 rfl (lv_at hl 0 rfl) ?_
  refine zv_iconst hx hb dL_law_2 ?_
  refine zx_cell (i := 0) hx hb (hml.trans hl.1.symm) hts hown hX hbl hbA hS (by omega) (by omega) (by omega) ⟨Nat.le_of_ble_eq_true rfl, Nat.le_of_ble_eq_true rfl⟩ ⟨by show _ ≤ 600170; omega, by show _ ≤ 7300652; omega⟩ (Nat.le_of_ble_eq_true rfl) dL_law_3 (fun z1 hz11 hz12 => ?_)
  refine zv_iconst hx hb dL_law_6 ?_
  refine zc_S (As := [.int (iI z1), .int (iI 5)]) (rest := [.int (iI 3)]) (ws := []) (n := 2) hx hb (hml.trans hl.1.symm) hts hown hK hP (c_L_low l D cI cJ z1 5 (by omega) (by omega) (by omega) (by omega)) (gd_S q_5181 q_5182 q_0 q_5183) (by decide +kernel) rfl ⟨Nat.le_of_ble_eq_true rfl, Nat.le_of_ble_eq_true rfl⟩ ⟨by show _ ≤ 600170; omega, by show _ ≤ 7300652; omega⟩ [] rfl rfl (Nat.le_of_ble_eq_true rfl) dL_law_7 (fun r_2 hr_2 => ?_)
  subst r_2
  have hw1 := lowZ_b z1 (n := 5) (by omega)
  refine zv_iadd hx hb dL_law_10 ?_
  refine zv_nam (fun C eC => ?_)
  refine lv_istore_n (lv' := [(1, .int (iI C)), (0, .ref b)]) hx hb dL_law_11 rfl hl (by decide) rfl (fun ls hl => ?_)
  refine zv_iconst hx hb dL_law_12 ?_
  refine lv_aload_n hx hb dL_law_13 rfl (lv_at hl 1 rfl) ?_
  refine zv_iconst hx hb dL_law_14 ?_
  refine zx_cell (i := 0) hx hb (hml.trans hl.1.symm) hts hown hX hbl hbA hS (by omega) (by omega) (by omega) ⟨Nat.le_of_ble_eq_true rfl, Nat.le_of_ble_eq_true rfl⟩ ⟨by show _ ≤ 600170; omega, by show _ ≤ 7300652; omega⟩ (Nat.le_of_ble_eq_true rfl) dL_law_15 (fun z2 hz21 hz22 => ?_)
  refine zv_iconst hx hb dL_law_18 ?_
  refine zv_ishr hx hb dL_law_19 ?_
  refine zv_iconst hx hb dL_law_20 ?_
  have hs2 := shZ_r z2 4
  refine zc_S (As := [.int (iI (shZ z2 4)), .int (iI 5)]) (rest := [.int (iI 3)]) (ws := []) (n := 2) hx hb (hml.trans hl.1.symm) hts hown hK hP (c_L_low l D cI cJ (shZ z2 4) 5 (by omega) (by omega) (by omega) (by omega)) (gd_S q_5181 q_5182 q_0 q_5183) (by decide +kernel) rfl ⟨Nat.le_of_ble_eq_true rfl, Nat.le_of_ble_eq_true rfl⟩ ⟨by show _ ≤ 600170; omega, by show _ ≤ 7300652; omega⟩ [] rfl rfl (Nat.le_of_ble_eq_true rfl) dL_law_21 (fun r_4 hr_4 => ?_)
  subst r_4
  have hw2 := lowZ_b (shZ z2 4) (n := 5) (by omega)
  refine zv_iadd hx hb dL_law_24 ?_
  refine zv_nam (fun R eR => ?_)
  refine lv_istore_n (lv' := [(2, .int (iI R)), (1, .int (iI C)), (0, .ref b)]) hx hb dL_law_25 rfl hl (by decide) rfl (fun ls hl => ?_)
  refine zv_iconst hx hb dL_law_26 ?_
  refine lv_aload_n hx hb dL_law_27 rfl (lv_at hl 2 rfl) ?_
  refine zv_iconst hx hb dL_law_28 ?_
  refine zx_cell (i := 0) hx hb (hml.trans hl.1.symm) hts hown hX hbl hbA hS (by omega) (by omega) (by omega) ⟨Nat.le_of_ble_eq_true rfl, Nat.le_of_ble_eq_true rfl⟩ ⟨by show _ ≤ 600170; omega, by show _ ≤ 7300652; omega⟩ (Nat.le_of_ble_eq_true rfl) dL_law_29 (fun z3 hz31 hz32 => ?_)
  refine zv_bipush hx hb dL_law_32 (by decide) ?_
  refine zv_ishr hx hb dL_law_34 ?_
  refine zv_bipush hx hb dL_law_35 (by decide) ?_
  have hs3 := shZ_r z3 8
  refine zc_S (As := [.int (iI (shZ z3 8)), .int (iI 58)]) (rest := [.int (iI 2)]) (ws := []) (n := 2) hx hb (hml.trans hl.1.symm) hts hown hK hP (c_L_low l D cI cJ (shZ z3 8) 58 (by omega) (by omega) (by omega) (by omega)) (gd_S q_5181 q_5182 q_0 q_5183) (by decide +kernel) rfl ⟨Nat.le_of_ble_eq_true rfl, Nat.le_of_ble_eq_true rfl⟩ ⟨by show _ ≤ 600170; omega, by show _ ≤ 7300652; omega⟩ [] rfl rfl (Nat.le_of_ble_eq_true rfl) dL_law_37 (fun r_6 hr_6 => ?_)
  subst r_6
  have hw3 := lowZ_b (shZ z3 8) (n := 58) (by omega)
  refine zv_iadd hx hb dL_law_40 ?_
  refine zv_nam (fun lim elim => ?_)
  refine lv_istore_n (lv' := [(3, .int (iI lim)), (2, .int (iI R)), (1, .int (iI C)), (0, .ref b)]) hx hb dL_law_41 rfl hl (by decide) rfl (fun ls hl => ?_)
  have hcC : clZ C 3 7 = C := by unfold clZ; (repeat' split) <;> omega
  have hcR : clZ R 3 7 = R := by unfold clZ; (repeat' split) <;> omega
  have hcL : clZ lim 1 60 = lim := by unfold clZ; (repeat' split) <;> omega
  refine va_new (ci := 2) (fs := [.null, .int (iI 0), .null, .null, .int (iI 0), .int (iI 0), .int (iI 0)]) (C := RX2) (T := TX2) (N := 7) hx hb hts uX2 tyX2 tyX2_ok hown (hts _ q_5013) (hts _ q_15) (hts _ q_1) hK.1 hP hD hS hA rfl (fun j hj => by rcases (show j = 0 ∨ j = 1 ∨ j = 2 ∨ j = 3 ∨ j = 4 ∨ j = 5 ∨ j = 6 by omega) with rfl | rfl | rfl | rfl | rfl | rfl | rfl <;> rfl) (Nat.le_of_ble_eq_true rfl) (Nat.le_of_ble_eq_true rfl) dL_law_42 (fun o_7 H hP hD hS => ?_)
  have hP : va_P D vwCl [(o_7, .inr (2, [.null, .int (iI 0), .null, .null, .int (iI 0), .int (iI 0), .int (iI 0)]))] H := hP
  have hD : va_D A [(o_7, .inr (2, [.null, .int (iI 0), .null, .null, .int (iI 0), .int (iI 0), .int (iI 0)]))] := hD
  refine lv_dup hx hb dL_law_45 rfl ?_
  refine lv_iload_n hx hb dL_law_46 rfl (lv_at hl 2 rfl) ?_
  refine lv_iload_n hx hb dL_law_47 rfl (lv_at hl 1 rfl) ?_
  refine lv_iload_n hx hb dL_law_48 rfl (lv_at hl 0 rfl) ?_
  refine zm_I (As := [.int (iI C), .int (iI R), .int (iI lim)]) (rest := [.ref o_7]) (ws := [(o_7, .inr (2, [.null, .int (iI 0), .null, .null, .int (iI 0), .int (iI 0), .int (iI 0)]))]) (wr := []) (n := 3) hx hb (hml.trans hl.1.symm) hts hown hK hP hD hS hA (c_X2_init l D cI cJ o_7 C R lim (by omega) (by omega) (by omega) (by omega) (by omega) (by omega) _) q_18 q_1 q_5015 q_17 rfl (by decide +kernel) rfl ⟨Nat.le_of_ble_eq_true rfl, Nat.le_of_ble_eq_true rfl⟩ ⟨by show _ ≤ 600170; omega, by show _ ≤ 7300652; omega⟩ [0] [] rfl rfl (by decide) (by decide) (by decide) rfl (Nat.le_of_ble_eq_true rfl) dL_law_49 (fun u H locs hq_8 hP hD hS => ?_)
  obtain ⟨fl, pn, s1, d1, r1, s2, d2, r2, gn, g1, h1, c1⟩ := u
  replace hP := hP.sub (ws' := [(o_7, .inr (2, [.ref fl, .int (iI (clZ lim 1 60)), .ref s1, .ref s2, .int (iI 0), .int (iI 0), .int (iI 0)])), (fl, .inr (0, [.int (iI (clZ C 3 7)), .int (iI (clZ R 3 7)), .ref pn, .int (iI 0)])), (pn, .inl (cI, 49, .inl (aI gn))), (s1, .inr (1, [.ref d1, .ref r1, .int (iI c1)])), (d1, .inl (cI, 16807, .inl (aI g1))), (r1, .inl (cI, 9163, .inl (aI h1))), (s2, .inr (1, [.ref d2, .ref r2, .int (iI 0)])), (d2, .inl (cI, 16807, .inl (aI (fun _ => 0)))), (r2, .inl (cI, 9163, .inl (aI (fun _ => 0))))]) [0, 1, 2, 3, 4, 5, 6, 7, 8] rfl
  replace hD := hD.sub (ws' := [(o_7, .inr (2, [.ref fl, .int (iI (clZ lim 1 60)), .ref s1, .ref s2, .int (iI 0), .int (iI 0), .int (iI 0)])), (fl, .inr (0, [.int (iI (clZ C 3 7)), .int (iI (clZ R 3 7)), .ref pn, .int (iI 0)])), (pn, .inl (cI, 49, .inl (aI gn))), (s1, .inr (1, [.ref d1, .ref r1, .int (iI c1)])), (d1, .inl (cI, 16807, .inl (aI g1))), (r1, .inl (cI, 9163, .inl (aI h1))), (s2, .inr (1, [.ref d2, .ref r2, .int (iI 0)])), (d2, .inl (cI, 16807, .inl (aI (fun _ => 0)))), (r2, .inl (cI, 9163, .inl (aI (fun _ => 0))))]) [0, 1, 2, 3, 4, 5, 6, 7, 8] (by decide) rfl
  try dsimp only at hq_8
  have hin1 := hq_8
  rw [hcC, hcR, hcL] at hP
  rw [hcC, hcR, hcL] at hD
  rw [hcC, hcR] at hin1
  refine lv_astore (lv' := [(4, .ref o_7), (3, .int (iI lim)), (2, .int (iI R)), (1, .int (iI C)), (0, .ref b)]) hx hb dL_law_52 hl (by decide) rfl (fun ls hl => ?_)
  refine va_new (ci := 2) (fs := [.null, .int (iI 0), .null, .null, .int (iI 0), .int (iI 0), .int (iI 0)]) (C := RX2) (T := TX2) (N := 7) hx hb hts uX2 tyX2 tyX2_ok hown (hts _ q_5013) (hts _ q_15) (hts _ q_1) hK.1 hP hD hS hA rfl (fun j hj => by rcases (show j = 0 ∨ j = 1 ∨ j = 2 ∨ j = 3 ∨ j = 4 ∨ j = 5 ∨ j = 6 by omega) with rfl | rfl | rfl | rfl | rfl | rfl | rfl <;> rfl) (Nat.le_of_ble_eq_true rfl) (Nat.le_of_ble_eq_true rfl) dL_law_54 (fun o_10 H hP hD hS => ?_)
  have hP : va_P D vwCl [(o_7, .inr (2, [.ref fl, .int (iI lim), .ref s1, .ref s2, .int (iI 0), .int (iI 0), .int (iI 0)])), (fl, .inr (0, [.int (iI C), .int (iI R), .ref pn, .int (iI 0)])), (pn, .inl (cI, 49, .inl (aI gn))), (s1, .inr (1, [.ref d1, .ref r1, .int (iI c1)])), (d1, .inl (cI, 16807, .inl (aI g1))), (r1, .inl (cI, 9163, .inl (aI h1))), (s2, .inr (1, [.ref d2, .ref r2, .int (iI 0)])), (d2, .inl (cI, 16807, .inl (aI (fun _ => 0)))), (r2, .inl (cI, 9163, .inl (aI (fun _ => 0)))), (o_10, .inr (2, [.null, .int (iI 0), .null, .null, .int (iI 0), .int (iI 0), .int (iI 0)]))] H := hP
  have hD : va_D A [(o_7, .inr (2, [.ref fl, .int (iI lim), .ref s1, .ref s2, .int (iI 0), .int (iI 0), .int (iI 0)])), (fl, .inr (0, [.int (iI C), .int (iI R), .ref pn, .int (iI 0)])), (pn, .inl (cI, 49, .inl (aI gn))), (s1, .inr (1, [.ref d1, .ref r1, .int (iI c1)])), (d1, .inl (cI, 16807, .inl (aI g1))), (r1, .inl (cI, 9163, .inl (aI h1))), (s2, .inr (1, [.ref d2, .ref r2, .int (iI 0)])), (d2, .inl (cI, 16807, .inl (aI (fun _ => 0)))), (r2, .inl (cI, 9163, .inl (aI (fun _ => 0)))), (o_10, .inr (2, [.null, .int (iI 0), .null, .null, .int (iI 0), .int (iI 0), .int (iI 0)]))] := hD
  refine lv_dup hx hb dL_law_57 rfl ?_
  refine lv_iload_n hx hb dL_law_58 rfl (lv_at hl 3 rfl) ?_
  refine lv_iload_n hx hb dL_law_59 rfl (lv_at hl 2 rfl) ?_
  refine lv_iload_n hx hb dL_law_60 rfl (lv_at hl 1 rfl) ?_
  refine zm_I (As := [.int (iI C), .int (iI R), .int (iI lim)]) (rest := [.ref o_10]) (ws := [(o_7, .inr (2, [.ref fl, .int (iI lim), .ref s1, .ref s2, .int (iI 0), .int (iI 0), .int (iI 0)])), (fl, .inr (0, [.int (iI C), .int (iI R), .ref pn, .int (iI 0)])), (pn, .inl (cI, 49, .inl (aI gn))), (s1, .inr (1, [.ref d1, .ref r1, .int (iI c1)])), (d1, .inl (cI, 16807, .inl (aI g1))), (r1, .inl (cI, 9163, .inl (aI h1))), (s2, .inr (1, [.ref d2, .ref r2, .int (iI 0)])), (d2, .inl (cI, 16807, .inl (aI (fun _ => 0)))), (r2, .inl (cI, 9163, .inl (aI (fun _ => 0)))), (o_10, .inr (2, [.null, .int (iI 0), .null, .null, .int (iI 0), .int (iI 0), .int (iI 0)]))]) (wr := [(o_7, .inr (2, [.ref fl, .int (iI lim), .ref s1, .ref s2, .int (iI 0), .int (iI 0), .int (iI 0)])), (fl, .inr (0, [.int (iI C), .int (iI R), .ref pn, .int (iI 0)])), (pn, .inl (cI, 49, .inl (aI gn))), (s1, .inr (1, [.ref d1, .ref r1, .int (iI c1)])), (d1, .inl (cI, 16807, .inl (aI g1))), (r1, .inl (cI, 9163, .inl (aI h1))), (s2, .inr (1, [.ref d2, .ref r2, .int (iI 0)])), (d2, .inl (cI, 16807, .inl (aI (fun _ => 0)))), (r2, .inl (cI, 9163, .inl (aI (fun _ => 0))))]) (n := 3) hx hb (hml.trans hl.1.symm) hts hown hK hP hD hS hA (c_X2_init l D cI cJ o_10 C R lim (by omega) (by omega) (by omega) (by omega) (by omega) (by omega) _) q_18 q_1 q_5015 q_17 rfl (by decide +kernel) rfl ⟨Nat.le_of_ble_eq_true rfl, Nat.le_of_ble_eq_true rfl⟩ ⟨by show _ ≤ 600170; omega, by show _ ≤ 7300652; omega⟩ [9] [0, 1, 2, 3, 4, 5, 6, 7, 8] rfl rfl (by decide) (by decide) (by decide) rfl (Nat.le_of_ble_eq_true rfl) dL_law_61 (fun u H locs hq_11 hP hD hS => ?_)
  obtain ⟨fm, pm, t1, e1, q1, t2, e2, q2, gm, g5, h5, c5⟩ := u
  replace hP := hP.sub (ws' := [(o_7, .inr (2, [.ref fl, .int (iI lim), .ref s1, .ref s2, .int (iI 0), .int (iI 0), .int (iI 0)])), (fl, .inr (0, [.int (iI C), .int (iI R), .ref pn, .int (iI 0)])), (pn, .inl (cI, 49, .inl (aI gn))), (s1, .inr (1, [.ref d1, .ref r1, .int (iI c1)])), (d1, .inl (cI, 16807, .inl (aI g1))), (r1, .inl (cI, 9163, .inl (aI h1))), (s2, .inr (1, [.ref d2, .ref r2, .int (iI 0)])), (d2, .inl (cI, 16807, .inl (aI (fun _ => 0)))), (r2, .inl (cI, 9163, .inl (aI (fun _ => 0)))), (o_10, .inr (2, [.ref fm, .int (iI (clZ lim 1 60)), .ref t1, .ref t2, .int (iI 0), .int (iI 0), .int (iI 0)])), (fm, .inr (0, [.int (iI (clZ C 3 7)), .int (iI (clZ R 3 7)), .ref pm, .int (iI 0)])), (pm, .inl (cI, 49, .inl (aI gm))), (t1, .inr (1, [.ref e1, .ref q1, .int (iI c5)])), (e1, .inl (cI, 16807, .inl (aI g5))), (q1, .inl (cI, 9163, .inl (aI h5))), (t2, .inr (1, [.ref e2, .ref q2, .int (iI 0)])), (e2, .inl (cI, 16807, .inl (aI (fun _ => 0)))), (q2, .inl (cI, 9163, .inl (aI (fun _ => 0))))]) [0, 1, 2, 3, 4, 5, 6, 7, 8, 9, 10, 11, 12, 13, 14, 15, 16, 17] rfl
  replace hD := hD.sub (ws' := [(o_7, .inr (2, [.ref fl, .int (iI lim), .ref s1, .ref s2, .int (iI 0), .int (iI 0), .int (iI 0)])), (fl, .inr (0, [.int (iI C), .int (iI R), .ref pn, .int (iI 0)])), (pn, .inl (cI, 49, .inl (aI gn))), (s1, .inr (1, [.ref d1, .ref r1, .int (iI c1)])), (d1, .inl (cI, 16807, .inl (aI g1))), (r1, .inl (cI, 9163, .inl (aI h1))), (s2, .inr (1, [.ref d2, .ref r2, .int (iI 0)])), (d2, .inl (cI, 16807, .inl (aI (fun _ => 0)))), (r2, .inl (cI, 9163, .inl (aI (fun _ => 0)))), (o_10, .inr (2, [.ref fm, .int (iI (clZ lim 1 60)), .ref t1, .ref t2, .int (iI 0), .int (iI 0), .int (iI 0)])), (fm, .inr (0, [.int (iI (clZ C 3 7)), .int (iI (clZ R 3 7)), .ref pm, .int (iI 0)])), (pm, .inl (cI, 49, .inl (aI gm))), (t1, .inr (1, [.ref e1, .ref q1, .int (iI c5)])), (e1, .inl (cI, 16807, .inl (aI g5))), (q1, .inl (cI, 9163, .inl (aI h5))), (t2, .inr (1, [.ref e2, .ref q2, .int (iI 0)])), (e2, .inl (cI, 16807, .inl (aI (fun _ => 0)))), (q2, .inl (cI, 9163, .inl (aI (fun _ => 0))))]) [0, 1, 2, 3, 4, 5, 6, 7, 8, 9, 10, 11, 12, 13, 14, 15, 16, 17] (by decide) rfl
  try dsimp only at hq_11
  have hin2 := hq_11
  rw [hcC, hcR, hcL] at hP
  rw [hcC, hcR, hcL] at hD
  rw [hcC, hcR] at hin2
  refine lv_astore (lv' := [(5, .ref o_10), (4, .ref o_7), (3, .int (iI lim)), (2, .int (iI R)), (1, .int (iI C)), (0, .ref b)]) hx hb dL_law_64 hl (by decide) rfl (fun ls hl => ?_)
  refine zv_iconst hx hb dL_law_66 ?_
  refine lv_istore (lv' := [(6, .int (iI 1)), (5, .ref o_10), (4, .ref o_7), (3, .int (iI lim)), (2, .int (iI R)), (1, .int (iI C)), (0, .ref b)]) hx hb dL_law_67 hl (by decide) rfl (fun ls hl => ?_)
  exact law_loop1 l hl0 hL C0 A hA hA2 hbA D cI cJ hK hE o_7 fl pn s1 d1 r1 s2 d2 r2 o_10 fm pm t1 e1 q1 t2 e2 q2 C R lim 4 1 0 18 104012 _ (by decide) (by decide) (by decide) (by decide) (by omega) (by omega) ⟨0, 0, 0, 0, c1, 0, c5, 0, (fun _ => -1), gn, g1, h1, (fun _ => 0), (fun _ => 0), gm, g5, h5, (fun _ => 0), (fun _ => 0), ⟨FlOK_0 ⟨by omega, by omega⟩ ⟨by omega, by omega⟩ hin1.1, hin1.2, FlOK_0 ⟨by omega, by omega⟩ ⟨by omega, by omega⟩ hin2.1, hin2.2, JI_0 (gn := gn) ⟨by omega, by omega⟩ ⟨by omega, by omega⟩ (by omega) hin1.1⟩, rfl⟩ H locs ls hP hD hS (lv_sub hl [0, 1, 2, 3, 4, 5, 6] rfl)
