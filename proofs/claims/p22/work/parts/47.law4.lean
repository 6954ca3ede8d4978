set_option maxRecDepth 100000 in
set_option maxHeartbeats 4000000 in
theorem c_L_areGoalsSo (l : Launch) (hl0 : l.stackTraces = false) (D : va_G) (cI cJ : ClassId) (tt fl s1 s2 pn d1 r1 : Nat) (lim bs P sm C R np c1 : Int) (gn g1 : Nat → Int) (N L : Int → Int) (hF : FlOK C R np N gn) (hL : LenOK (LZ C R N bs) g1) (hbg : GdZ C R N (bs * 343)) (hLP : 0 ≤ LZ C R N bs P ∧ LZ C R N bs P ≤ lim) (hlm : 1 ≤ lim ∧ lim ≤ 60) (sz : Nat) : VMi l yL_areGoalsSo (.code yL_areGoalsSo cL_areGoalsSo 15 (some .boolean)) 28 0 0 [.ref tt, .int (iI C), .int (iI R)] D cI cJ [(tt, .inr (2, [.ref fl, .int (iI lim), .ref s1, .ref s2, .int (iI bs), .int (iI P), .int (iI sm)])), (fl, .inr (0, [.int (iI C), .int (iI R), .ref pn, .int (iI np)])), (pn, .inl (cI, 49, .inl (aI gn))), (s1, .inr (1, [.ref d1, .ref r1, .int (iI c1)])), (d1, .inl (cI, 16807, .inl (aI g1)))] sz (fun (r : Int) (u : Unit) => r = 1) (fun u : Unit => [(tt, .inr (2, [.ref fl, .int (iI lim), .ref s1, .ref s2, .int (iI bs), .int (iI P), .int (iI sm)])), (fl, .inr (0, [.int (iI C), .int (iI R), .ref pn, .int (iI np)])), (pn, .inl (cI, 49, .inl (aI gn))), (s1, .inr (1, [.ref d1, .ref r1, .int (iI c1)])), (d1, .inl (cI, 16807, .inl (aI g1)))]) (fun (E : String) (u : Unit) => False) := by
  obtain ⟨hC1, hC2, hR1, hR2, hp1, hp2, -, -⟩ := id hF
  obtain ⟨hLP0, hLP1⟩ := id hLP
  have hPg := LZ_gd hF hbg hLP0
  have hcb := cb_ok hF hbg hLP0
  have hP0 : 0 ≤ P ∧ P < 16807 := ⟨hPg.1, hPg.2.1⟩
  obtain ⟨hP1, hP2⟩ := id hP0
  obtain ⟨hlm1, hlm2⟩ := id hlm
  have hAl := hcb.2.2
  have hrow := (hcb.2.1 (LZ C R N bs P).toNat (by omega)).2.pl
  obtain ⟨n9, hn9⟩ : ∃ n : Int, n = C * R := ⟨_, rfl⟩
  have hnb : 9 ≤ n9 ∧ n9 ≤ 49 := by rw [hn9]; exact CR_b ⟨hC1, hC2⟩ ⟨hR1, hR2⟩
  have hbs0 := hbg.1
  have hbs1 := hbg.2.1
  have hcb9 := cb_base (bs := bs) (by omega) (by omega)
  have hsb := sqN_b (LZ C R N bs) lim 49
  refine VM_of (Qc := fun A => QMi D A (fun (r : Int) (u : Unit) => r = 1) (fun u : Unit => [(tt, .inr (2, [.ref fl, .int (iI lim), .ref s1, .ref s2, .int (iI bs), .int (iI P), .int (iI sm)])), (fl, .inr (0, [.int (iI C), .int (iI R), .ref pn, .int (iI np)])), (pn, .inl (cI, 49, .inl (aI gn))), (s1, .inr (1, [.ref d1, .ref r1, .int (iI c1)])), (d1, .inl (cI, 16807, .inl (aI g1)))])) (XC := fun A => XQ D A (fun u : Unit => [(tt, .inr (2, [.ref fl, .int (iI lim), .ref s1, .ref s2, .int (iI bs), .int (iI P), .int (iI sm)])), (fl, .inr (0, [.int (iI C), .int (iI R), .ref pn, .int (iI np)])), (pn, .inl (cI, 49, .inl (aI gn))), (s1, .inr (1, [.ref d1, .ref r1, .int (iI c1)])), (d1, .inl (cI, 16807, .inl (aI g1)))]) (fun (E : String) (u : Unit) => False)) (by decide) rfl (Nat.le_of_ble_eq_true rfl) (fun p e s m below meth c ls A hx hb hr hts hown hlk hml hin hK hP hD hA hS hl hE hout => ?_)
  have hl : lv_has ls 15 [(0, .ref tt), (1, .int (iI C)), (2, .int (iI R))] := hl
  refine zv_iconst hx hb dL_areGoalsSo_0 ?_
  refine lv_istore_n (lv' := [(3, .int (iI 0)), (0, .ref tt), (1, .int (iI C)), (2, .int (iI R))]) hx hb dL_areGoalsSo_1 rfl hl (by decide) rfl (fun ls hl => ?_)
  refine lv_aload_n hx hb dL_areGoalsSo_2 rfl (lv_at hl 1 rfl) ?_
  refine zc_V (As := []) (rest := []) (ws := [(tt, .inr (2, [.ref fl, .int (iI lim), .ref s1, .ref s2, .int (iI bs), .int (iI P), .int (iI sm)])), (fl, .inr (0, [.int (iI C), .int (iI R), .ref pn, .int (iI np)])), (pn, .inl (cI, 49, .inl (aI gn))), (s1, .inr (1, [.ref d1, .ref r1, .int (iI c1)])), (d1, .inl (cI, 16807, .inl (aI g1)))]) (n := 0) hx hb (hml.trans hl.1.symm) hts hown hK hP (c_X2_slack l D cI cJ tt fl s1 s2 pn d1 r1 lim bs P sm C R np c1 gn g1 N (LZ C R N bs) hF hL hlm hP0) (gd_V q_5402 q_204 q_205 q_1 q_206) (by decide +kernel) rfl ⟨Nat.le_of_ble_eq_true rfl, Nat.le_of_ble_eq_true rfl⟩ ⟨Nat.le_of_ble_eq_true rfl, Nat.le_of_ble_eq_true rfl⟩ [0, 1, 2, 3, 4] rfl 0 (ci := 2) rfl rfl rfl rfl (Nat.le_of_ble_eq_true rfl) dL_areGoalsSo_3 (fun r_1 hr_1 => ?_)
  subst r_1
  refine lv_aload_n hx hb dL_areGoalsSo_6 rfl (lv_at hl 1 rfl) ?_
  refine zc_V (As := []) (rest := [.int (iI (lim - (LZ C R N bs) P))]) (ws := [(tt, .inr (2, [.ref fl, .int (iI lim), .ref s1, .ref s2, .int (iI bs), .int (iI P), .int (iI sm)])), (fl, .inr (0, [.int (iI C), .int (iI R), .ref pn, .int (iI np)])), (pn, .inl (cI, 49, .inl (aI gn))), (s1, .inr (1, [.ref d1, .ref r1, .int (iI c1)])), (d1, .inl (cI, 16807, .inl (aI g1)))]) (n := 0) hx hb (hml.trans hl.1.symm) hts hown hK hP (c_X2_length l D cI cJ tt fl s1 s2 pn d1 r1 lim bs P sm C R np c1 gn g1 N (LZ C R N bs) hF hL hlm hP0) (gd_V q_5401 q_199 q_200 q_1 q_201) (by decide +kernel) rfl ⟨Nat.le_of_ble_eq_true rfl, Nat.le_of_ble_eq_true rfl⟩ ⟨Nat.le_of_ble_eq_true rfl, Nat.le_of_ble_eq_true rfl⟩ [0, 1, 2, 3, 4] rfl 0 (ci := 2) rfl rfl rfl rfl (Nat.le_of_ble_eq_true rfl) dL_areGoalsSo_7 (fun r_2 hr_2 => ?_)
  subst r_2
  refine zv_iadd hx hb dL_areGoalsSo_10 ?_
  refine zv_top (y := lim) (by omega) ?_
  refine lv_istore (lv' := [(4, .int (iI lim)), (3, .int (iI 0)), (0, .ref tt), (1, .int (iI C)), (2, .int (iI R))]) hx hb dL_areGoalsSo_11 hl (by decide) rfl (fun ls hl => ?_)
  refine lv_aload_n hx hb dL_areGoalsSo_13 rfl (lv_at hl 2 rfl) ?_
  refine lv_aload_n hx hb dL_areGoalsSo_14 rfl (lv_at hl 2 rfl) ?_
  refine zc_V (As := []) (rest := [.ref tt]) (ws := [(tt, .inr (2, [.ref fl, .int (iI lim), .ref s1, .ref s2, .int (iI bs), .int (iI P), .int (iI sm)])), (fl, .inr (0, [.int (iI C), .int (iI R), .ref pn, .int (iI np)])), (pn, .inl (cI, 49, .inl (aI gn))), (s1, .inr (1, [.ref d1, .ref r1, .int (iI c1)])), (d1, .inl (cI, 16807, .inl (aI g1)))]) (n := 0) hx hb (hml.trans hl.1.symm) hts hown hK hP (c_X2_length l D cI cJ tt fl s1 s2 pn d1 r1 lim bs P sm C R np c1 gn g1 N (LZ C R N bs) hF hL hlm hP0) (gd_V q_5401 q_199 q_200 q_1 q_201) (by decide +kernel) rfl ⟨Nat.le_of_ble_eq_true rfl, Nat.le_of_ble_eq_true rfl⟩ ⟨Nat.le_of_ble_eq_true rfl, Nat.le_of_ble_eq_true rfl⟩ [0, 1, 2, 3, 4] rfl 0 (ci := 2) rfl rfl rfl rfl (Nat.le_of_ble_eq_true rfl) dL_areGoalsSo_15 (fun r_3 hr_3 => ?_)
  subst r_3
  refine zm_Vi (As := [.int (iI ((LZ C R N bs) P))]) (rest := []) (ws := [(tt, .inr (2, [.ref fl, .int (iI lim), .ref s1, .ref s2, .int (iI bs), .int (iI P), .int (iI sm)])), (fl, .inr (0, [.int (iI C), .int (iI R), .ref pn, .int (iI np)])), (pn, .inl (cI, 49, .inl (aI gn))), (s1, .inr (1, [.ref d1, .ref r1, .int (iI c1)])), (d1, .inl (cI, 16807, .inl (aI g1)))]) (wr := []) (n := 1) hx hb (hml.trans hl.1.symm) hts hown hK hP hD hS hA (c_X2_cableAtN l D cI cJ tt fl s1 s2 pn d1 r1 lim bs P sm C R np c1 gn g1 N (LZ C R N bs) ((LZ C R N bs) P) hF hL hlm hP0 hcb (⟨by omega, by omega⟩) (by omega) (by omega) _) (gd_V q_5434 q_451 q_452 q_1 q_453) (by decide +kernel) rfl ⟨Nat.le_of_ble_eq_true rfl, Nat.le_of_ble_eq_true rfl⟩ ⟨Nat.le_of_ble_eq_true rfl, Nat.le_of_ble_eq_true rfl⟩ [0, 1, 2, 3, 4] [] rfl rfl (by decide) (by decide) (by decide) 0 (ci := 2) rfl rfl rfl rfl (Nat.le_of_ble_eq_true rfl) dL_areGoalsSo_18 (fun r_5 u H locs hq_4 hP hD hS => ?_)
  have hP := hP.sub (ws' := [(tt, .inr (2, [.ref fl, .int (iI lim), .ref s1, .ref s2, .int (iI bs), .int (iI P), .int (iI sm)])), (fl, .inr (0, [.int (iI C), .int (iI R), .ref pn, .int (iI np)])), (pn, .inl (cI, 49, .inl (aI gn))), (s1, .inr (1, [.ref d1, .ref r1, .int (iI c1)])), (d1, .inl (cI, 16807, .inl (aI g1)))]) [0, 1, 2, 3, 4] rfl
  have hD := hD.sub (ws' := [(tt, .inr (2, [.ref fl, .int (iI lim), .ref s1, .ref s2, .int (iI bs), .int (iI P), .int (iI sm)])), (fl, .inr (0, [.int (iI C), .int (iI R), .ref pn, .int (iI np)])), (pn, .inl (cI, 49, .inl (aI gn))), (s1, .inr (1, [.ref d1, .ref r1, .int (iI c1)])), (d1, .inl (cI, 16807, .inl (aI g1)))]) [0, 1, 2, 3, 4] (by decide) rfl
  try dsimp only at hq_4
  have hce := hq_4
  refine zv_top (y := cbZ (bs * 343)) (by rw [hce, al_end hF hbg hLP0]) ?_
  refine zv_nam (fun be ebe => ?_)
  refine lv_istore (lv' := [(5, .int (iI be)), (4, .int (iI lim)), (3, .int (iI 0)), (0, .ref tt), (1, .int (iI C)), (2, .int (iI R))]) hx hb dL_areGoalsSo_21 hl (by decide) rfl (fun ls hl => ?_)
  rw [← ebe] at hcb9
  refine zv_iconst hx hb dL_areGoalsSo_23 ?_
  refine lv_istore (lv' := [(6, .int (iI 1)), (5, .int (iI be)), (4, .int (iI lim)), (3, .int (iI 0)), (0, .ref tt), (1, .int (iI C)), (2, .int (iI R))]) hx hb dL_areGoalsSo_24 hl (by decide) rfl (fun ls hl => ?_)
  refine zv_iconst hx hb dL_areGoalsSo_26 ?_
  refine lv_istore (lv' := [(7, .int (iI 0)), (6, .int (iI 1)), (5, .int (iI be)), (4, .int (iI lim)), (3, .int (iI 0)), (0, .ref tt), (1, .int (iI C)), (2, .int (iI R))]) hx hb dL_areGoalsSo_27 hl (by decide) rfl (fun ls hl => ?_)
  have loop29 : ∀ (nn : Nat) (nb i : Int) (j : Nat), (i = (j : Int)) → (i ≤ n9) → (nb = sqL (LZ C R N bs) lim C j) → (n9 + 1 - i < (nn : Int)) → ∀ (H : Heap) (locs : List Loc), va_P D vwCl [(tt, .inr (2, [.ref fl, .int (iI lim), .ref s1, .ref s2, .int (iI bs), .int (iI P), .int (iI sm)])), (fl, .inr (0, [.int (iI C), .int (iI R), .ref pn, .int (iI np)])), (pn, .inl (cI, 49, .inl (aI gn))), (s1, .inr (1, [.ref d1, .ref r1, .int (iI c1)])), (d1, .inl (cI, 16807, .inl (aI g1)))] H → va_D A [(tt, .inr (2, [.ref fl, .int (iI lim), .ref s1, .ref s2, .int (iI bs), .int (iI P), .int (iI sm)])), (fl, .inr (0, [.int (iI C), .int (iI R), .ref pn, .int (iI np)])), (pn, .inl (cI, 49, .inl (aI gn))), (s1, .inr (1, [.ref d1, .ref r1, .int (iI c1)])), (d1, .inl (cI, 16807, .inl (aI g1)))] → va_S A s.heap H locs → ∀ ls : Array Slot, lv_has ls 15 [(0, .ref tt), (1, .int (iI C)), (2, .int (iI R)), (3, .int (iI nb)), (4, .int (iI lim)), (5, .int (iI be)), (6, .int (iI 1)), (7, .int (iI i))] → W p l e (rmM 28 0 0) s m [.ref tt, .int (iI C), .int (iI R)].toArray below meth c H locs 0 0 (vx_MQ below (QMi D A (fun (r : Int) (u : Unit) => r = 1) (fun u : Unit => [(tt, .inr (2, [.ref fl, .int (iI lim), .ref s1, .ref s2, .int (iI bs), .int (iI P), .int (iI sm)])), (fl, .inr (0, [.int (iI C), .int (iI R), .ref pn, .int (iI np)])), (pn, .inl (cI, 49, .inl (aI gn))), (s1, .inr (1, [.ref d1, .ref r1, .int (iI c1)])), (d1, .inl (cI, 16807, .inl (aI g1)))])) (XQ D A (fun u : Unit => [(tt, .inr (2, [.ref fl, .int (iI lim), .ref s1, .ref s2, .int (iI bs), .int (iI P), .int (iI sm)])), (fl, .inr (0, [.int (iI C), .int (iI R), .ref pn, .int (iI np)])), (pn, .inl (cI, 49, .inl (aI gn))), (s1, .inr (1, [.ref d1, .ref r1, .int (iI c1)])), (d1, .inl (cI, 16807, .inl (aI g1)))]) (fun (E : String) (u : Unit) => False)) [.ref tt, .int (iI C), .int (iI R)].toArray s 0 0 A) (F0 m 29 ls []) := by
    intro nn
    induction nn with
    | zero => intro nb i j hij hin hu hms; exfalso; omega
    | succ nn ih29 =>
      intro nb i j hij hin hu hms H locs hP hD hS ls hl
      have hub := sqL_b (LZ C R N bs) lim C j
      rw [← hu] at hub
      refine lv_iload hx hb dL_areGoalsSo_29 (lv_at hl 7 rfl) ?_
      refine lv_iload_n hx hb dL_areGoalsSo_31 rfl (lv_at hl 1 rfl) ?_
      refine lv_iload_n hx hb dL_areGoalsSo_32 rfl (lv_at hl 2 rfl) ?_
      refine zv_imul hx hb dL_areGoalsSo_33 ?_
      refine zv_top (y := n9) (hn9.symm) ?_
      refine zv_icmp_ge hx hb dL_areGoalsSo_34 (tgt := 253) (by decide) ⟨by omega, by omega⟩ ⟨by omega, by omega⟩ (fun c_6 => ?_) (fun c_6 => ?_)
      · have hje := sqL_sqN (lim := lim) hF hbg (n := j) (by rw [← hn9]; omega)
        refine lv_iload hx hb dL_areGoalsSo_253 (lv_at hl 6 rfl) ?_
        refine zv_if_eq hx hb dL_areGoalsSo_255 (tgt := 304) (by decide) ⟨by omega, by omega⟩ (fun c_7 => by exfalso; omega) (fun c_7 => ?_)
        refine lv_aload_n hx hb dL_areGoalsSo_258 rfl (lv_at hl 0 rfl) ?_
        refine zc_V (As := []) (rest := []) (ws := [(tt, .inr (2, [.ref fl, .int (iI lim), .ref s1, .ref s2, .int (iI bs), .int (iI P), .int (iI sm)])), (fl, .inr (0, [.int (iI C), .int (iI R), .ref pn, .int (iI np)])), (pn, .inl (cI, 49, .inl (aI gn))), (s1, .inr (1, [.ref d1, .ref r1, .int (iI c1)])), (d1, .inl (cI, 16807, .inl (aI g1)))]) (n := 0) hx hb (hml.trans hl.1.symm) hts hown hK hP (c_X2_squares l D cI cJ tt fl s1 s2 pn d1 r1 lim bs P sm C R np c1 gn g1 N (LZ C R N bs) hF hL hlm) (gd_V q_5414 q_221 q_222 q_1 q_223) (by decide +kernel) rfl ⟨Nat.le_of_ble_eq_true rfl, Nat.le_of_ble_eq_true rfl⟩ ⟨Nat.le_of_ble_eq_true rfl, Nat.le_of_ble_eq_true rfl⟩ [0, 1, 2, 3, 4] rfl 0 (ci := 2) rfl rfl rfl rfl (Nat.le_of_ble_eq_true rfl) dL_areGoalsSo_259 (fun r_8 hr_8 => ?_)
        subst r_8
        refine lv_iload_n hx hb dL_areGoalsSo_262 rfl (lv_at hl 3 rfl) ?_
        refine zv_icmp_ne hx hb dL_areGoalsSo_263 (tgt := 304) (by decide) ⟨by omega, by omega⟩ ⟨by omega, by omega⟩ (fun c_9 => by exfalso; omega) (fun c_9 => ?_)
        refine lv_aload_n hx hb dL_areGoalsSo_266 rfl (lv_at hl 0 rfl) ?_
        refine lv_aload_n hx hb dL_areGoalsSo_267 rfl (lv_at hl 0 rfl) ?_
        refine zc_V (As := []) (rest := [.ref tt]) (ws := [(tt, .inr (2, [.ref fl, .int (iI lim), .ref s1, .ref s2, .int (iI bs), .int (iI P), .int (iI sm)])), (fl, .inr (0, [.int (iI C), .int (iI R), .ref pn, .int (iI np)])), (pn, .inl (cI, 49, .inl (aI gn))), (s1, .inr (1, [.ref d1, .ref r1, .int (iI c1)])), (d1, .inl (cI, 16807, .inl (aI g1)))]) (n := 0) hx hb (hml.trans hl.1.symm) hts hown hK hP (c_X2_column l D cI cJ tt fl s1 s2 pn d1 r1 lim bs P sm C R np c1 gn g1 N (LZ C R N bs) hF hL hlm hP0) (gd_V q_5383 q_180 q_181 q_1 q_182) (by decide +kernel) rfl ⟨Nat.le_of_ble_eq_true rfl, Nat.le_of_ble_eq_true rfl⟩ ⟨Nat.le_of_ble_eq_true rfl, Nat.le_of_ble_eq_true rfl⟩ [0, 1, 2, 3, 4] rfl 0 (ci := 2) rfl rfl rfl rfl (Nat.le_of_ble_eq_true rfl) dL_areGoalsSo_268 (fun r_10 hr_10 => ?_)
        subst r_10
        refine lv_aload_n hx hb dL_areGoalsSo_271 rfl (lv_at hl 0 rfl) ?_
        refine zc_V (As := []) (rest := [.int (iI (P / 343 / 7)), .ref tt]) (ws := [(tt, .inr (2, [.ref fl, .int (iI lim), .ref s1, .ref s2, .int (iI bs), .int (iI P), .int (iI sm)])), (fl, .inr (0, [.int (iI C), .int (iI R), .ref pn, .int (iI np)])), (pn, .inl (cI, 49, .inl (aI gn))), (s1, .inr (1, [.ref d1, .ref r1, .int (iI c1)])), (d1, .inl (cI, 16807, .inl (aI g1)))]) (n := 0) hx hb (hml.trans hl.1.symm) hts hown hK hP (c_X2_row l D cI cJ tt fl s1 s2 pn d1 r1 lim bs P sm C R np c1 gn g1 N (LZ C R N bs) hF hL hlm hP0) (gd_V q_5388 q_186 q_187 q_1 q_188) (by decide +kernel) rfl ⟨Nat.le_of_ble_eq_true rfl, Nat.le_of_ble_eq_true rfl⟩ ⟨Nat.le_of_ble_eq_true rfl, Nat.le_of_ble_eq_true rfl⟩ [0, 1, 2, 3, 4] rfl 0 (ci := 2) rfl rfl rfl rfl (Nat.le_of_ble_eq_true rfl) dL_areGoalsSo_272 (fun r_11 hr_11 => ?_)
        subst r_11
        refine zm_Vi (As := [.int (iI (P / 343 / 7)), .int (iI (P / 343 % 7))]) (rest := []) (ws := [(tt, .inr (2, [.ref fl, .int (iI lim), .ref s1, .ref s2, .int (iI bs), .int (iI P), .int (iI sm)])), (fl, .inr (0, [.int (iI C), .int (iI R), .ref pn, .int (iI np)])), (pn, .inl (cI, 49, .inl (aI gn))), (s1, .inr (1, [.ref d1, .ref r1, .int (iI c1)])), (d1, .inl (cI, 16807, .inl (aI g1)))]) (wr := []) (n := 2) hx hb (hml.trans hl.1.symm) hts hown hK hP hD hS hA (c_X2_wordsN l D cI cJ tt fl s1 s2 pn d1 r1 lim bs P sm C R np c1 gn g1 N (LZ C R N bs) (P / 343 / 7) (P / 343 % 7) hF hL hlm (⟨by omega, hPg.2.2.1, by omega, hPg.2.2.2.1⟩) (by omega) (by omega) (by omega) (by omega) _) (gd_V q_5463 q_473 q_474 q_1 q_475) (by decide +kernel) rfl ⟨Nat.le_of_ble_eq_true rfl, Nat.le_of_ble_eq_true rfl⟩ ⟨Nat.le_of_ble_eq_true rfl, Nat.le_of_ble_eq_true rfl⟩ [0, 1, 2, 3, 4] [] rfl rfl (by decide) (by decide) (by decide) 0 (ci := 2) rfl rfl rfl rfl (Nat.le_of_ble_eq_true rfl) dL_areGoalsSo_275 (fun r_13 u H locs hq_12 hP hD hS => ?_)
        have hP := hP.sub (ws' := [(tt, .inr (2, [.ref fl, .int (iI lim), .ref s1, .ref s2, .int (iI bs), .int (iI P), .int (iI sm)])), (fl, .inr (0, [.int (iI C), .int (iI R), .ref pn, .int (iI np)])), (pn, .inl (cI, 49, .inl (aI gn))), (s1, .inr (1, [.ref d1, .ref r1, .int (iI c1)])), (d1, .inl (cI, 16807, .inl (aI g1)))]) [0, 1, 2, 3, 4] rfl
        have hD := hD.sub (ws' := [(tt, .inr (2, [.ref fl, .int (iI lim), .ref s1, .ref s2, .int (iI bs), .int (iI P), .int (iI sm)])), (fl, .inr (0, [.int (iI C), .int (iI R), .ref pn, .int (iI np)])), (pn, .inl (cI, 49, .inl (aI gn))), (s1, .inr (1, [.ref d1, .ref r1, .int (iI c1)])), (d1, .inl (cI, 16807, .inl (aI g1)))]) [0, 1, 2, 3, 4] (by decide) rfl
        try dsimp only at hq_12
        have hwp := hq_12
        have hqq : P / 343 / 7 * 7 + P / 343 % 7 = P / 343 := by omega
        have hmem := ls_mem hF hbg hLP0
        rw [← hqq] at hmem
        have hwq := wd_ls (L := LZ C R N bs) (lim := lim) (q := (P / 343 / 7 * 7 + P / 343 % 7)) (LZ_nn hF hbg)
        rw [← hwp] at hwq
        have hwr := wdN_b (LZ C R N bs) lim (P / 343 / 7 * 7 + P / 343 % 7) 343
        rw [← hwp] at hwr
        refine zv_if_le hx hb dL_areGoalsSo_278 (tgt := 304) (by decide) ⟨by omega, by omega⟩ (fun c_14 => by exfalso; omega) (fun c_14 => ?_)
        refine lv_aload_n hx hb dL_areGoalsSo_281 rfl (lv_at hl 0 rfl) ?_
        refine lv_aload_n hx hb dL_areGoalsSo_282 rfl (lv_at hl 0 rfl) ?_
        refine zc_V (As := []) (rest := [.ref tt]) (ws := [(tt, .inr (2, [.ref fl, .int (iI lim), .ref s1, .ref s2, .int (iI bs), .int (iI P), .int (iI sm)])), (fl, .inr (0, [.int (iI C), .int (iI R), .ref pn, .int (iI np)])), (pn, .inl (cI, 49, .inl (aI gn))), (s1, .inr (1, [.ref d1, .ref r1, .int (iI c1)])), (d1, .inl (cI, 16807, .inl (aI g1)))]) (n := 0) hx hb (hml.trans hl.1.symm) hts hown hK hP (c_X2_column l D cI cJ tt fl s1 s2 pn d1 r1 lim bs P sm C R np c1 gn g1 N (LZ C R N bs) hF hL hlm hP0) (gd_V q_5383 q_180 q_181 q_1 q_182) (by decide +kernel) rfl ⟨Nat.le_of_ble_eq_true rfl, Nat.le_of_ble_eq_true rfl⟩ ⟨Nat.le_of_ble_eq_true rfl, Nat.le_of_ble_eq_true rfl⟩ [0, 1, 2, 3, 4] rfl 0 (ci := 2) rfl rfl rfl rfl (Nat.le_of_ble_eq_true rfl) dL_areGoalsSo_283 (fun r_15 hr_15 => ?_)
        subst r_15
        refine lv_aload_n hx hb dL_areGoalsSo_286 rfl (lv_at hl 0 rfl) ?_
        refine zc_V (As := []) (rest := [.int (iI (P / 343 / 7)), .ref tt]) (ws := [(tt, .inr (2, [.ref fl, .int (iI lim), .ref s1, .ref s2, .int (iI bs), .int (iI P), .int (iI sm)])), (fl, .inr (0, [.int (iI C), .int (iI R), .ref pn, .int (iI np)])), (pn, .inl (cI, 49, .inl (aI gn))), (s1, .inr (1, [.ref d1, .ref r1, .int (iI c1)])), (d1, .inl (cI, 16807, .inl (aI g1)))]) (n := 0) hx hb (hml.trans hl.1.symm) hts hown hK hP (c_X2_row l D cI cJ tt fl s1 s2 pn d1 r1 lim bs P sm C R np c1 gn g1 N (LZ C R N bs) hF hL hlm hP0) (gd_V q_5388 q_186 q_187 q_1 q_188) (by decide +kernel) rfl ⟨Nat.le_of_ble_eq_true rfl, Nat.le_of_ble_eq_true rfl⟩ ⟨Nat.le_of_ble_eq_true rfl, Nat.le_of_ble_eq_true rfl⟩ [0, 1, 2, 3, 4] rfl 0 (ci := 2) rfl rfl rfl rfl (Nat.le_of_ble_eq_true rfl) dL_areGoalsSo_287 (fun r_16 hr_16 => ?_)
        subst r_16
        refine zm_Vi (As := [.int (iI (P / 343 / 7)), .int (iI (P / 343 % 7))]) (rest := []) (ws := [(tt, .inr (2, [.ref fl, .int (iI lim), .ref s1, .ref s2, .int (iI bs), .int (iI P), .int (iI sm)])), (fl, .inr (0, [.int (iI C), .int (iI R), .ref pn, .int (iI np)])), (pn, .inl (cI, 49, .inl (aI gn))), (s1, .inr (1, [.ref d1, .ref r1, .int (iI c1)])), (d1, .inl (cI, 16807, .inl (aI g1)))]) (wr := []) (n := 2) hx hb (hml.trans hl.1.symm) hts hown hK hP hD hS hA (c_X2_leastN l D cI cJ tt fl s1 s2 pn d1 r1 lim bs P sm C R np c1 gn g1 N (LZ C R N bs) (P / 343 / 7) (P / 343 % 7) hF hL hlm (⟨by omega, hPg.2.2.1, by omega, hPg.2.2.2.1⟩) (by omega) (by omega) (by omega) (by omega) _) (gd_V q_5459 q_459 q_460 q_1 q_461) (by decide +kernel) rfl ⟨Nat.le_of_ble_eq_true rfl, Nat.le_of_ble_eq_true rfl⟩ ⟨Nat.le_of_ble_eq_true rfl, Nat.le_of_ble_eq_true rfl⟩ [0, 1, 2, 3, 4] [] rfl rfl (by decide) (by decide) (by decide) 0 (ci := 2) rfl rfl rfl rfl (Nat.le_of_ble_eq_true rfl) dL_areGoalsSo_290 (fun r_18 u H locs hq_17 hP hD hS => ?_)
        have hP := hP.sub (ws' := [(tt, .inr (2, [.ref fl, .int (iI lim), .ref s1, .ref s2, .int (iI bs), .int (iI P), .int (iI sm)])), (fl, .inr (0, [.int (iI C), .int (iI R), .ref pn, .int (iI np)])), (pn, .inl (cI, 49, .inl (aI gn))), (s1, .inr (1, [.ref d1, .ref r1, .int (iI c1)])), (d1, .inl (cI, 16807, .inl (aI g1)))]) [0, 1, 2, 3, 4] rfl
        have hD := hD.sub (ws' := [(tt, .inr (2, [.ref fl, .int (iI lim), .ref s1, .ref s2, .int (iI bs), .int (iI P), .int (iI sm)])), (fl, .inr (0, [.int (iI C), .int (iI R), .ref pn, .int (iI np)])), (pn, .inl (cI, 49, .inl (aI gn))), (s1, .inr (1, [.ref d1, .ref r1, .int (iI c1)])), (d1, .inl (cI, 16807, .inl (aI g1)))]) [0, 1, 2, 3, 4] (by decide) rfl
        try dsimp only at hq_17
        have hlp := hq_17
        refine lv_aload_n hx hb dL_areGoalsSo_293 rfl (lv_at hl 0 rfl) ?_
        refine zc_V (As := []) (rest := [.int (iI r_18)]) (ws := [(tt, .inr (2, [.ref fl, .int (iI lim), .ref s1, .ref s2, .int (iI bs), .int (iI P), .int (iI sm)])), (fl, .inr (0, [.int (iI C), .int (iI R), .ref pn, .int (iI np)])), (pn, .inl (cI, 49, .inl (aI gn))), (s1, .inr (1, [.ref d1, .ref r1, .int (iI c1)])), (d1, .inl (cI, 16807, .inl (aI g1)))]) (n := 0) hx hb (hml.trans hl.1.symm) hts hown hK hP (c_X2_length l D cI cJ tt fl s1 s2 pn d1 r1 lim bs P sm C R np c1 gn g1 N (LZ C R N bs) hF hL hlm hP0) (gd_V q_5401 q_199 q_200 q_1 q_201) (by decide +kernel) rfl ⟨Nat.le_of_ble_eq_true rfl, Nat.le_of_ble_eq_true rfl⟩ ⟨Nat.le_of_ble_eq_true rfl, Nat.le_of_ble_eq_true rfl⟩ [0, 1, 2, 3, 4] rfl 0 (ci := 2) rfl rfl rfl rfl (Nat.le_of_ble_eq_true rfl) dL_areGoalsSo_294 (fun r_19 hr_19 => ?_)
        subst r_19
        refine zv_icmp_gt hx hb dL_areGoalsSo_297 (tgt := 304) (by decide) ⟨by omega, by omega⟩ ⟨by omega, by omega⟩ (fun c_20 => by exfalso; omega) (fun c_20 => ?_)
        refine zv_iconst hx hb dL_areGoalsSo_300 ?_
        refine lv_goto (tgt := 305) hx hb dL_areGoalsSo_301 (by decide) ?_
        exact vx_ret (MM_zret (()) hx hb hr hlk hP hD hS (Nat.le_of_ble_eq_true rfl) (Nat.le_of_ble_eq_true rfl) dL_areGoalsSo_305 (by first | rfl | decide) (rfl))
      · refine lv_iload hx hb dL_areGoalsSo_37 (lv_at hl 6 rfl) ?_
        refine zv_if_eq hx hb dL_areGoalsSo_39 (tgt := 253) (by decide) ⟨by omega, by omega⟩ (fun c_21 => by exfalso; omega) (fun c_21 => ?_)
        refine lv_iload hx hb dL_areGoalsSo_42 (lv_at hl 7 rfl) ?_
        refine lv_iload_n hx hb dL_areGoalsSo_44 rfl (lv_at hl 1 rfl) ?_
        refine zv_irem hx hb dL_areGoalsSo_45 (by omega) (by omega) (by omega) (by omega) ?_
        refine zv_nam (fun a ea => ?_)
        refine lv_istore (lv' := [(8, .int (iI a)), (0, .ref tt), (1, .int (iI C)), (2, .int (iI R)), (3, .int (iI nb)), (4, .int (iI lim)), (5, .int (iI be)), (6, .int (iI 1)), (7, .int (iI i))]) hx hb dL_areGoalsSo_46 hl (by decide) rfl (fun ls hl => ?_)
        refine lv_iload hx hb dL_areGoalsSo_48 (lv_at hl 8 rfl) ?_
        refine lv_iload_n hx hb dL_areGoalsSo_50 rfl (lv_at hl 2 rfl) ?_
        refine zv_idiv hx hb dL_areGoalsSo_51 (by omega) (by omega) (by omega) (by omega) ?_
        refine zv_nam (fun b eb => ?_)
        refine lv_istore (lv' := [(9, .int (iI b)), (8, .int (iI a)), (0, .ref tt), (1, .int (iI C)), (2, .int (iI R)), (3, .int (iI nb)), (4, .int (iI lim)), (5, .int (iI be)), (6, .int (iI 1)), (7, .int (iI i))]) hx hb dL_areGoalsSo_52 hl (by decide) rfl (fun ls hl => ?_)
        have ha1 : 0 ≤ a := by rw [ea]; exact Int.emod_nonneg _ (by omega)
        have ha2 : a < C := by rw [ea]; exact Int.emod_lt_of_pos _ (by omega)
        have hb1 : 0 ≤ b := by rw [eb]; exact Int.ediv_nonneg (by omega) (by omega)
        have hb2 : b < R := by rw [eb]; exact Int.ediv_lt_of_lt_mul (by omega) (by rw [Int.mul_comm, ← hn9]; omega)
        have hga := goal_at hF hbg (a := a) (c := b) ⟨ha1, ha2, hb1, hb2⟩
        have hwd := wd_ls (L := LZ C R N bs) (lim := lim) (q := a * 7 + b) (LZ_nn hF hbg)
        have hwb := wdN_b (LZ C R N bs) lim (a * 7 + b) 343
        have hlb9 := lsZ_b hL (a * 7 + b)
        refine lv_aload_n hx hb dL_areGoalsSo_54 rfl (lv_at hl 2 rfl) ?_
        refine lv_iload hx hb dL_areGoalsSo_55 (lv_at hl 1 rfl) ?_
        refine lv_iload hx hb dL_areGoalsSo_57 (lv_at hl 0 rfl) ?_
        refine zm_Vi (As := [.int (iI a), .int (iI b)]) (rest := []) (ws := [(tt, .inr (2, [.ref fl, .int (iI lim), .ref s1, .ref s2, .int (iI bs), .int (iI P), .int (iI sm)])), (fl, .inr (0, [.int (iI C), .int (iI R), .ref pn, .int (iI np)])), (pn, .inl (cI, 49, .inl (aI gn))), (s1, .inr (1, [.ref d1, .ref r1, .int (iI c1)])), (d1, .inl (cI, 16807, .inl (aI g1)))]) (wr := []) (n := 2) hx hb (hml.trans hl.1.symm) hts hown hK hP hD hS hA (c_X2_leastN l D cI cJ tt fl s1 s2 pn d1 r1 lim bs P sm C R np c1 gn g1 N (LZ C R N bs) a b hF hL hlm (⟨ha1, ha2, hb1, hb2⟩) (by omega) (by omega) (by omega) (by omega) _) (gd_V q_5459 q_459 q_460 q_1 q_461) (by decide +kernel) rfl ⟨Nat.le_of_ble_eq_true rfl, Nat.le_of_ble_eq_true rfl⟩ ⟨Nat.le_of_ble_eq_true rfl, Nat.le_of_ble_eq_true rfl⟩ [0, 1, 2, 3, 4] [] rfl rfl (by decide) (by decide) (by decide) 0 (ci := 2) rfl rfl rfl rfl (Nat.le_of_ble_eq_true rfl) dL_areGoalsSo_59 (fun r_23 u H locs hq_22 hP hD hS => ?_)
        have hP := hP.sub (ws' := [(tt, .inr (2, [.ref fl, .int (iI lim), .ref s1, .ref s2, .int (iI bs), .int (iI P), .int (iI sm)])), (fl, .inr (0, [.int (iI C), .int (iI R), .ref pn, .int (iI np)])), (pn, .inl (cI, 49, .inl (aI gn))), (s1, .inr (1, [.ref d1, .ref r1, .int (iI c1)])), (d1, .inl (cI, 16807, .inl (aI g1)))]) [0, 1, 2, 3, 4] rfl
        have hD := hD.sub (ws' := [(tt, .inr (2, [.ref fl, .int (iI lim), .ref s1, .ref s2, .int (iI bs), .int (iI P), .int (iI sm)])), (fl, .inr (0, [.int (iI C), .int (iI R), .ref pn, .int (iI np)])), (pn, .inl (cI, 49, .inl (aI gn))), (s1, .inr (1, [.ref d1, .ref r1, .int (iI c1)])), (d1, .inl (cI, 16807, .inl (aI g1)))]) [0, 1, 2, 3, 4] (by decide) rfl
        try dsimp only at hq_22
        have hle := hq_22
        refine zv_nam (fun le ele => ?_)
        refine lv_istore (lv' := [(10, .int (iI le)), (9, .int (iI b)), (8, .int (iI a)), (0, .ref tt), (1, .int (iI C)), (2, .int (iI R)), (3, .int (iI nb)), (4, .int (iI lim)), (5, .int (iI be)), (6, .int (iI 1)), (7, .int (iI i))]) hx hb dL_areGoalsSo_62 hl (by decide) rfl (fun ls hl => ?_)
        refine lv_aload_n hx hb dL_areGoalsSo_64 rfl (lv_at hl 3 rfl) ?_
        refine lv_iload hx hb dL_areGoalsSo_65 (lv_at hl 2 rfl) ?_
        refine lv_iload hx hb dL_areGoalsSo_67 (lv_at hl 1 rfl) ?_
        refine zm_Vi (As := [.int (iI a), .int (iI b)]) (rest := []) (ws := [(tt, .inr (2, [.ref fl, .int (iI lim), .ref s1, .ref s2, .int (iI bs), .int (iI P), .int (iI sm)])), (fl, .inr (0, [.int (iI C), .int (iI R), .ref pn, .int (iI np)])), (pn, .inl (cI, 49, .inl (aI gn))), (s1, .inr (1, [.ref d1, .ref r1, .int (iI c1)])), (d1, .inl (cI, 16807, .inl (aI g1)))]) (wr := []) (n := 2) hx hb (hml.trans hl.1.symm) hts hown hK hP hD hS hA (c_X2_wordsN l D cI cJ tt fl s1 s2 pn d1 r1 lim bs P sm C R np c1 gn g1 N (LZ C R N bs) a b hF hL hlm (⟨ha1, ha2, hb1, hb2⟩) (by omega) (by omega) (by omega) (by omega) _) (gd_V q_5463 q_473 q_474 q_1 q_475) (by decide +kernel) rfl ⟨Nat.le_of_ble_eq_true rfl, Nat.le_of_ble_eq_true rfl⟩ ⟨Nat.le_of_ble_eq_true rfl, Nat.le_of_ble_eq_true rfl⟩ [0, 1, 2, 3, 4] [] rfl rfl (by decide) (by decide) (by decide) 0 (ci := 2) rfl rfl rfl rfl (Nat.le_of_ble_eq_true rfl) dL_areGoalsSo_69 (fun r_25 u H locs hq_24 hP hD hS => ?_)
        have hP := hP.sub (ws' := [(tt, .inr (2, [.ref fl, .int (iI lim), .ref s1, .ref s2, .int (iI bs), .int (iI P), .int (iI sm)])), (fl, .inr (0, [.int (iI C), .int (iI R), .ref pn, .int (iI np)])), (pn, .inl (cI, 49, .inl (aI gn))), (s1, .inr (1, [.ref d1, .ref r1, .int (iI c1)])), (d1, .inl (cI, 16807, .inl (aI g1)))]) [0, 1, 2, 3, 4] rfl
        have hD := hD.sub (ws' := [(tt, .inr (2, [.ref fl, .int (iI lim), .ref s1, .ref s2, .int (iI bs), .int (iI P), .int (iI sm)])), (fl, .inr (0, [.int (iI C), .int (iI R), .ref pn, .int (iI np)])), (pn, .inl (cI, 49, .inl (aI gn))), (s1, .inr (1, [.ref d1, .ref r1, .int (iI c1)])), (d1, .inl (cI, 16807, .inl (aI g1)))]) [0, 1, 2, 3, 4] (by decide) rfl
        try dsimp only at hq_24
        have hwo := hq_24
        refine zv_nam (fun wo ewo => ?_)
        refine lv_istore (lv' := [(11, .int (iI wo)), (10, .int (iI le)), (9, .int (iI b)), (8, .int (iI a)), (0, .ref tt), (1, .int (iI C)), (2, .int (iI R)), (3, .int (iI nb)), (4, .int (iI lim)), (5, .int (iI be)), (6, .int (iI 1)), (7, .int (iI i))]) hx hb dL_areGoalsSo_72 hl (by decide) rfl (fun ls hl => ?_)
        refine lv_iload hx hb dL_areGoalsSo_74 (lv_at hl 3 rfl) ?_
        refine lv_iload hx hb dL_areGoalsSo_76 (lv_at hl 9 rfl) ?_
        refine zv_bipush hx hb dL_areGoalsSo_78 (by decide) ?_
        refine zv_idiv hx hb dL_areGoalsSo_80 (by omega) (by omega) (by omega) (by omega) ?_
        refine zv_isub hx hb dL_areGoalsSo_81 ?_
        refine zv_nam (fun x ex => ?_)
        refine lv_istore (lv' := [(12, .int (iI x)), (11, .int (iI wo)), (10, .int (iI le)), (9, .int (iI b)), (8, .int (iI a)), (0, .ref tt), (1, .int (iI C)), (2, .int (iI R)), (3, .int (iI nb)), (4, .int (iI lim)), (5, .int (iI be)), (6, .int (iI 1)), (7, .int (iI i))]) hx hb dL_areGoalsSo_82 hl (by decide) rfl (fun ls hl => ?_)
        refine lv_iload hx hb dL_areGoalsSo_84 (lv_at hl 3 rfl) ?_
        refine lv_iload hx hb dL_areGoalsSo_86 (lv_at hl 10 rfl) ?_
        refine zv_bipush hx hb dL_areGoalsSo_88 (by decide) ?_
        refine zv_irem hx hb dL_areGoalsSo_90 (by omega) (by omega) (by omega) (by omega) ?_
        refine zv_isub hx hb dL_areGoalsSo_91 ?_
        refine zv_nam (fun y ey => ?_)
        refine lv_istore (lv' := [(13, .int (iI y)), (12, .int (iI x)), (11, .int (iI wo)), (10, .int (iI le)), (9, .int (iI b)), (8, .int (iI a)), (0, .ref tt), (1, .int (iI C)), (2, .int (iI R)), (3, .int (iI nb)), (4, .int (iI lim)), (5, .int (iI be)), (6, .int (iI 1)), (7, .int (iI i))]) hx hb dL_areGoalsSo_92 hl (by decide) rfl (fun ls hl => ?_)
        have j107_26 : ∀ (ax : Int), (ax = absZ (a - bs / 7)) → ∀ ls : Array Slot, lv_has ls 15 [(13, .int (iI y)), (12, .int (iI x)), (11, .int (iI wo)), (10, .int (iI le)), (9, .int (iI b)), (8, .int (iI a)), (0, .ref tt), (1, .int (iI C)), (2, .int (iI R)), (3, .int (iI nb)), (4, .int (iI lim)), (5, .int (iI be)), (6, .int (iI 1)), (7, .int (iI i))] → W p l e (rmM 28 0 0) s m [.ref tt, .int (iI C), .int (iI R)].toArray below meth c H locs 0 0 (vx_MQ below (QMi D A (fun (r : Int) (u : Unit) => r = 1) (fun u : Unit => [(tt, .inr (2, [.ref fl, .int (iI lim), .ref s1, .ref s2, .int (iI bs), .int (iI P), .int (iI sm)])), (fl, .inr (0, [.int (iI C), .int (iI R), .ref pn, .int (iI np)])), (pn, .inl (cI, 49, .inl (aI gn))), (s1, .inr (1, [.ref d1, .ref r1, .int (iI c1)])), (d1, .inl (cI, 16807, .inl (aI g1)))])) (XQ D A (fun u : Unit => [(tt, .inr (2, [.ref fl, .int (iI lim), .ref s1, .ref s2, .int (iI bs), .int (iI P), .int (iI sm)])), (fl, .inr (0, [.int (iI C), .int (iI R), .ref pn, .int (iI np)])), (pn, .inl (cI, 49, .inl (aI gn))), (s1, .inr (1, [.ref d1, .ref r1, .int (iI c1)])), (d1, .inl (cI, 16807, .inl (aI g1)))]) (fun (E : String) (u : Unit) => False)) [.ref tt, .int (iI C), .int (iI R)].toArray s 0 0 A) (F0 m 107 ls [.int (iI ax)]) := by
          intro ax hax ls hl
          have j120_27 : ∀ (ay : Int), (ay = absZ (b - bs % 7)) → ∀ ls : Array Slot, lv_has ls 15 [(13, .int (iI y)), (12, .int (iI x)), (11, .int (iI wo)), (10, .int (iI le)), (9, .int (iI b)), (8, .int (iI a)), (0, .ref tt), (1, .int (iI C)), (2, .int (iI R)), (3, .int (iI nb)), (4, .int (iI lim)), (5, .int (iI be)), (6, .int (iI 1)), (7, .int (iI i))] → W p l e (rmM 28 0 0) s m [.ref tt, .int (iI C), .int (iI R)].toArray below meth c H locs 0 0 (vx_MQ below (QMi D A (fun (r : Int) (u : Unit) => r = 1) (fun u : Unit => [(tt, .inr (2, [.ref fl, .int (iI lim), .ref s1, .ref s2, .int (iI bs), .int (iI P), .int (iI sm)])), (fl, .inr (0, [.int (iI C), .int (iI R), .ref pn, .int (iI np)])), (pn, .inl (cI, 49, .inl (aI gn))), (s1, .inr (1, [.ref d1, .ref r1, .int (iI c1)])), (d1, .inl (cI, 16807, .inl (aI g1)))])) (XQ D A (fun u : Unit => [(tt, .inr (2, [.ref fl, .int (iI lim), .ref s1, .ref s2, .int (iI bs), .int (iI P), .int (iI sm)])), (fl, .inr (0, [.int (iI C), .int (iI R), .ref pn, .int (iI np)])), (pn, .inl (cI, 49, .inl (aI gn))), (s1, .inr (1, [.ref d1, .ref r1, .int (iI c1)])), (d1, .inl (cI, 16807, .inl (aI g1)))]) (fun (E : String) (u : Unit) => False)) [.ref tt, .int (iI C), .int (iI R)].toArray s 0 0 A) (F0 m 120 ls [.int (iI ay), .int (iI ax)]) := by
            intro ay hay ls hl
            refine zv_iadd hx hb dL_areGoalsSo_120 ?_
            refine zv_nam (fun fa efa => ?_)
            refine lv_istore (lv' := [(14, .int (iI fa)), (13, .int (iI y)), (12, .int (iI x)), (11, .int (iI wo)), (10, .int (iI le)), (9, .int (iI b)), (8, .int (iI a)), (0, .ref tt), (1, .int (iI C)), (2, .int (iI R)), (3, .int (iI nb)), (4, .int (iI lim)), (5, .int (iI be)), (6, .int (iI 1)), (7, .int (iI i))]) hx hb dL_areGoalsSo_121 hl (by decide) rfl (fun ls hl => ?_)
            have hfa : fa = absZ (a - bs / 7) + absZ (b - bs % 7) := by rw [efa, hax, hay]
            rw [← hfa] at hga
            rw [← hle, ← ele] at hga hwd hlb9
            rw [← hwo, ← ewo] at hwd hwb
            have hfb : 0 ≤ fa ∧ fa ≤ 100 := by rw [hfa]; unfold absZ; (repeat' split) <;> omega
            refine lv_iload_n hx hb dL_areGoalsSo_123 rfl (lv_at hl 10 rfl) ?_
            have j134_28 : ∀ (x1 : Int), ((x1 = 1 ∧ 0 < wo) ∨ (x1 = 0 ∧ ¬ 0 < wo)) → ∀ ls : Array Slot, lv_has ls 15 [(14, .int (iI fa)), (13, .int (iI y)), (12, .int (iI x)), (11, .int (iI wo)), (10, .int (iI le)), (9, .int (iI b)), (8, .int (iI a)), (0, .ref tt), (1, .int (iI C)), (2, .int (iI R)), (3, .int (iI nb)), (4, .int (iI lim)), (5, .int (iI be)), (6, .int (iI 1)), (7, .int (iI i))] → W p l e (rmM 28 0 0) s m [.ref tt, .int (iI C), .int (iI R)].toArray below meth c H locs 0 0 (vx_MQ below (QMi D A (fun (r : Int) (u : Unit) => r = 1) (fun u : Unit => [(tt, .inr (2, [.ref fl, .int (iI lim), .ref s1, .ref s2, .int (iI bs), .int (iI P), .int (iI sm)])), (fl, .inr (0, [.int (iI C), .int (iI R), .ref pn, .int (iI np)])), (pn, .inl (cI, 49, .inl (aI gn))), (s1, .inr (1, [.ref d1, .ref r1, .int (iI c1)])), (d1, .inl (cI, 16807, .inl (aI g1)))])) (XQ D A (fun u : Unit => [(tt, .inr (2, [.ref fl, .int (iI lim), .ref s1, .ref s2, .int (iI bs), .int (iI P), .int (iI sm)])), (fl, .inr (0, [.int (iI C), .int (iI R), .ref pn, .int (iI np)])), (pn, .inl (cI, 49, .inl (aI gn))), (s1, .inr (1, [.ref d1, .ref r1, .int (iI c1)])), (d1, .inl (cI, 16807, .inl (aI g1)))]) (fun (E : String) (u : Unit) => False)) [.ref tt, .int (iI C), .int (iI R)].toArray s 0 0 A) (F0 m 134 ls [.int (iI x1), .int (iI nb)]) := by
              intro x1 hx1 ls hl
              refine zv_iadd hx hb dL_areGoalsSo_134 ?_
              refine lv_istore_n (lv' := [(3, .int (iI (nb + x1))), (14, .int (iI fa)), (13, .int (iI y)), (12, .int (iI x)), (11, .int (iI wo)), (10, .int (iI le)), (9, .int (iI b)), (8, .int (iI a)), (0, .ref tt), (1, .int (iI C)), (2, .int (iI R)), (4, .int (iI lim)), (5, .int (iI be)), (6, .int (iI 1)), (7, .int (iI i))]) hx hb dL_areGoalsSo_135 rfl hl (by decide) rfl (fun ls hl => ?_)
              have j245_29 : ∀ (H : Heap) (locs : List Loc), va_P D vwCl [(tt, .inr (2, [.ref fl, .int (iI lim), .ref s1, .ref s2, .int (iI bs), .int (iI P), .int (iI sm)])), (fl, .inr (0, [.int (iI C), .int (iI R), .ref pn, .int (iI np)])), (pn, .inl (cI, 49, .inl (aI gn))), (s1, .inr (1, [.ref d1, .ref r1, .int (iI c1)])), (d1, .inl (cI, 16807, .inl (aI g1)))] H → va_D A [(tt, .inr (2, [.ref fl, .int (iI lim), .ref s1, .ref s2, .int (iI bs), .int (iI P), .int (iI sm)])), (fl, .inr (0, [.int (iI C), .int (iI R), .ref pn, .int (iI np)])), (pn, .inl (cI, 49, .inl (aI gn))), (s1, .inr (1, [.ref d1, .ref r1, .int (iI c1)])), (d1, .inl (cI, 16807, .inl (aI g1)))] → va_S A s.heap H locs → ∀ ls : Array Slot, lv_has ls 15 [(3, .int (iI (nb + x1))), (14, .int (iI fa)), (13, .int (iI y)), (12, .int (iI x)), (11, .int (iI wo)), (10, .int (iI le)), (9, .int (iI b)), (8, .int (iI a)), (0, .ref tt), (1, .int (iI C)), (2, .int (iI R)), (4, .int (iI lim)), (5, .int (iI be)), (6, .int (iI 1)), (7, .int (iI i))] → W p l e (rmM 28 0 0) s m [.ref tt, .int (iI C), .int (iI R)].toArray below meth c H locs 0 0 (vx_MQ below (QMi D A (fun (r : Int) (u : Unit) => r = 1) (fun u : Unit => [(tt, .inr (2, [.ref fl, .int (iI lim), .ref s1, .ref s2, .int (iI bs), .int (iI P), .int (iI sm)])), (fl, .inr (0, [.int (iI C), .int (iI R), .ref pn, .int (iI np)])), (pn, .inl (cI, 49, .inl (aI gn))), (s1, .inr (1, [.ref d1, .ref r1, .int (iI c1)])), (d1, .inl (cI, 16807, .inl (aI g1)))])) (XQ D A (fun u : Unit => [(tt, .inr (2, [.ref fl, .int (iI lim), .ref s1, .ref s2, .int (iI bs), .int (iI P), .int (iI sm)])), (fl, .inr (0, [.int (iI C), .int (iI R), .ref pn, .int (iI np)])), (pn, .inl (cI, 49, .inl (aI gn))), (s1, .inr (1, [.ref d1, .ref r1, .int (iI c1)])), (d1, .inl (cI, 16807, .inl (aI g1)))]) (fun (E : String) (u : Unit) => False)) [.ref tt, .int (iI C), .int (iI R)].toArray s 0 0 A) (F0 m 245 ls [.int (iI 1)]) := by
                intro  H locs hP hD hS ls hl
                refine lv_istore (lv' := [(6, .int (iI 1)), (3, .int (iI (nb + x1))), (14, .int (iI fa)), (13, .int (iI y)), (12, .int (iI x)), (11, .int (iI wo)), (10, .int (iI le)), (9, .int (iI b)), (8, .int (iI a)), (0, .ref tt), (1, .int (iI C)), (2, .int (iI R)), (4, .int (iI lim)), (5, .int (iI be)), (7, .int (iI i))]) hx hb dL_areGoalsSo_245 hl (by decide) rfl (fun ls hl => ?_)
                have hsn := sq_nx (L := LZ C R N bs) (lim := lim) (C := C) (q := a * 7 + b) (x := x1) (j := j) (LZ_nn hF hbg) (by rw [ea, eb, hij]) (by rw [← hwo, ← ewo]; exact hx1)
                refine zv_iinc (k := 14) (lv' := [(7, .int (iI (i + 1))), (6, .int (iI 1)), (3, .int (iI (nb + x1))), (14, .int (iI fa)), (13, .int (iI y)), (12, .int (iI x)), (11, .int (iI wo)), (10, .int (iI le)), (9, .int (iI b)), (8, .int (iI a)), (0, .ref tt), (1, .int (iI C)), (2, .int (iI R)), (4, .int (iI lim)), (5, .int (iI be))]) hx hb dL_areGoalsSo_247 hl rfl (by decide) rfl (fun ls hl => ?_)
                refine lv_goto (tgt := 29) hx hb dL_areGoalsSo_250 (by decide) ?_
                exact ih29 (nb + x1) (i + 1) (j + 1) (by omega) (by omega) (by rw [hu]; exact hsn) (by omega) _ _ hP hD hS ls (lv_sub hl [10, 11, 12, 2, 13, 14, 1, 0] rfl)
              refine lv_iload hx hb dL_areGoalsSo_136 (lv_at hl 5 rfl) ?_
              refine zv_iconst hx hb dL_areGoalsSo_138 ?_
              refine zv_icmp_lt hx hb dL_areGoalsSo_139 (tgt := 244) (by decide) ⟨by omega, by omega⟩ ⟨by omega, by omega⟩ (fun c_30 => by exfalso; omega) (fun c_30 => ?_)
              refine lv_iload hx hb dL_areGoalsSo_142 (lv_at hl 4 rfl) ?_
              refine zv_if_le hx hb dL_areGoalsSo_144 (tgt := 151) (by decide) ⟨by omega, by omega⟩ (fun c_31 => ?_) (fun c_31 => ?_)
              · refine zv_iconst hx hb dL_areGoalsSo_151 ?_
                refine lv_iload hx hb dL_areGoalsSo_152 (lv_at hl 5 rfl) ?_
                refine zv_if_lt hx hb dL_areGoalsSo_154 (tgt := 168) (by decide) ⟨by omega, by omega⟩ (fun c_32 => ?_) (fun c_32 => ?_)
                · refine zv_iconst hx hb dL_areGoalsSo_168 ?_
                  refine zv_icmp_ne hx hb dL_areGoalsSo_169 (tgt := 244) (by decide) ⟨by omega, by omega⟩ ⟨by omega, by omega⟩ (fun c_33 => by exfalso; omega) (fun c_33 => ?_)
                  refine lv_aload_n hx hb dL_areGoalsSo_172 rfl (lv_at hl 8 rfl) ?_
                  refine lv_iload hx hb dL_areGoalsSo_173 (lv_at hl 7 rfl) ?_
                  refine lv_iload hx hb dL_areGoalsSo_175 (lv_at hl 6 rfl) ?_
                  refine zm_Vi (As := [.int (iI a), .int (iI b)]) (rest := []) (ws := [(tt, .inr (2, [.ref fl, .int (iI lim), .ref s1, .ref s2, .int (iI bs), .int (iI P), .int (iI sm)])), (fl, .inr (0, [.int (iI C), .int (iI R), .ref pn, .int (iI np)])), (pn, .inl (cI, 49, .inl (aI gn))), (s1, .inr (1, [.ref d1, .ref r1, .int (iI c1)])), (d1, .inl (cI, 16807, .inl (aI g1)))]) (wr := []) (n := 2) hx hb (hml.trans hl.1.symm) hts hown hK hP hD hS hA (c_X2_missingN l D cI cJ tt fl s1 s2 pn d1 r1 lim bs P sm C R np c1 gn g1 N (LZ C R N bs) a b hF hL hlm (⟨ha1, ha2, hb1, hb2⟩) (by omega) (by omega) (by omega) (by omega) _) (gd_V q_5467 q_466 q_467 q_1 q_468) (by decide +kernel) rfl ⟨Nat.le_of_ble_eq_true rfl, Nat.le_of_ble_eq_true rfl⟩ ⟨Nat.le_of_ble_eq_true rfl, Nat.le_of_ble_eq_true rfl⟩ [0, 1, 2, 3, 4] [] rfl rfl (by decide) (by decide) (by decide) 0 (ci := 2) rfl rfl rfl rfl (Nat.le_of_ble_eq_true rfl) dL_areGoalsSo_177 (fun r_35 u H locs hq_34 hP hD hS => ?_)
                  have hP := hP.sub (ws' := [(tt, .inr (2, [.ref fl, .int (iI lim), .ref s1, .ref s2, .int (iI bs), .int (iI P), .int (iI sm)])), (fl, .inr (0, [.int (iI C), .int (iI R), .ref pn, .int (iI np)])), (pn, .inl (cI, 49, .inl (aI gn))), (s1, .inr (1, [.ref d1, .ref r1, .int (iI c1)])), (d1, .inl (cI, 16807, .inl (aI g1)))]) [0, 1, 2, 3, 4] rfl
                  have hD := hD.sub (ws' := [(tt, .inr (2, [.ref fl, .int (iI lim), .ref s1, .ref s2, .int (iI bs), .int (iI P), .int (iI sm)])), (fl, .inr (0, [.int (iI C), .int (iI R), .ref pn, .int (iI np)])), (pn, .inl (cI, 49, .inl (aI gn))), (s1, .inr (1, [.ref d1, .ref r1, .int (iI c1)])), (d1, .inl (cI, 16807, .inl (aI g1)))]) [0, 1, 2, 3, 4] (by decide) rfl
                  try dsimp only at hq_34
                  have hmi := hq_34
                  rw [← hle, ← ele] at hmi
                  refine lv_iload hx hb dL_areGoalsSo_180 (lv_at hl 5 rfl) ?_
                  refine zv_if_ge hx hb dL_areGoalsSo_182 (tgt := 189) (by decide) ⟨by omega, by omega⟩ (fun c_36 => by exfalso; omega) (fun c_36 => ?_)
                  refine zv_iconst hx hb dL_areGoalsSo_185 ?_
                  refine lv_goto (tgt := 205) hx hb dL_areGoalsSo_186 (by decide) ?_
                  refine zv_icmp_ne hx hb dL_areGoalsSo_205 (tgt := 244) (by decide) ⟨by omega, by omega⟩ ⟨by omega, by omega⟩ (fun c_37 => by exfalso; omega) (fun c_37 => ?_)
                  refine lv_iload hx hb dL_areGoalsSo_208 (lv_at hl 5 rfl) ?_
                  refine zv_if_lt hx hb dL_areGoalsSo_210 (tgt := 230) (by decide) ⟨by omega, by omega⟩ (fun c_38 => ?_) (fun c_38 => by exfalso; omega)
                  refine lv_iload hx hb dL_areGoalsSo_230 (lv_at hl 1 rfl) ?_
                  refine zv_if_gt hx hb dL_areGoalsSo_232 (tgt := 240) (by decide) ⟨by omega, by omega⟩ (fun c_39 => ?_) (fun c_39 => by exfalso; omega)
                  refine zv_iconst hx hb dL_areGoalsSo_240 ?_
                  refine lv_goto (tgt := 245) hx hb dL_areGoalsSo_241 (by decide) ?_
                  exact j245_29  _ _ hP hD hS ls hl
                · refine lv_iload hx hb dL_areGoalsSo_157 (lv_at hl 5 rfl) ?_
                  refine lv_iload hx hb dL_areGoalsSo_159 (lv_at hl 11 rfl) ?_
                  refine zv_icmp_gt hx hb dL_areGoalsSo_161 (tgt := 168) (by decide) ⟨by omega, by omega⟩ ⟨by omega, by omega⟩ (fun c_40 => ?_) (fun c_40 => by exfalso; omega)
                  refine zv_iconst hx hb dL_areGoalsSo_168 ?_
                  refine zv_icmp_ne hx hb dL_areGoalsSo_169 (tgt := 244) (by decide) ⟨by omega, by omega⟩ ⟨by omega, by omega⟩ (fun c_41 => by exfalso; omega) (fun c_41 => ?_)
                  refine lv_aload_n hx hb dL_areGoalsSo_172 rfl (lv_at hl 8 rfl) ?_
                  refine lv_iload hx hb dL_areGoalsSo_173 (lv_at hl 7 rfl) ?_
                  refine lv_iload hx hb dL_areGoalsSo_175 (lv_at hl 6 rfl) ?_
                  refine zm_Vi (As := [.int (iI a), .int (iI b)]) (rest := []) (ws := [(tt, .inr (2, [.ref fl, .int (iI lim), .ref s1, .ref s2, .int (iI bs), .int (iI P), .int (iI sm)])), (fl, .inr (0, [.int (iI C), .int (iI R), .ref pn, .int (iI np)])), (pn, .inl (cI, 49, .inl (aI gn))), (s1, .inr (1, [.ref d1, .ref r1, .int (iI c1)])), (d1, .inl (cI, 16807, .inl (aI g1)))]) (wr := []) (n := 2) hx hb (hml.trans hl.1.symm) hts hown hK hP hD hS hA (c_X2_missingN l D cI cJ tt fl s1 s2 pn d1 r1 lim bs P sm C R np c1 gn g1 N (LZ C R N bs) a b hF hL hlm (⟨ha1, ha2, hb1, hb2⟩) (by omega) (by omega) (by omega) (by omega) _) (gd_V q_5467 q_466 q_467 q_1 q_468) (by decide +kernel) rfl ⟨Nat.le_of_ble_eq_true rfl, Nat.le_of_ble_eq_true rfl⟩ ⟨Nat.le_of_ble_eq_true rfl, Nat.le_of_ble_eq_true rfl⟩ [0, 1, 2, 3, 4] [] rfl rfl (by decide) (by decide) (by decide) 0 (ci := 2) rfl rfl rfl rfl (Nat.le_of_ble_eq_true rfl) dL_areGoalsSo_177 (fun r_43 u H locs hq_42 hP hD hS => ?_)
                  have hP := hP.sub (ws' := [(tt, .inr (2, [.ref fl, .int (iI lim), .ref s1, .ref s2, .int (iI bs), .int (iI P), .int (iI sm)])), (fl, .inr (0, [.int (iI C), .int (iI R), .ref pn, .int (iI np)])), (pn, .inl (cI, 49, .inl (aI gn))), (s1, .inr (1, [.ref d1, .ref r1, .int (iI c1)])), (d1, .inl (cI, 16807, .inl (aI g1)))]) [0, 1, 2, 3, 4] rfl
                  have hD := hD.sub (ws' := [(tt, .inr (2, [.ref fl, .int (iI lim), .ref s1, .ref s2, .int (iI bs), .int (iI P), .int (iI sm)])), (fl, .inr (0, [.int (iI C), .int (iI R), .ref pn, .int (iI np)])), (pn, .inl (cI, 49, .inl (aI gn))), (s1, .inr (1, [.ref d1, .ref r1, .int (iI c1)])), (d1, .inl (cI, 16807, .inl (aI g1)))]) [0, 1, 2, 3, 4] (by decide) rfl
                  try dsimp only at hq_42
                  have hmi := hq_42
                  rw [← hle, ← ele] at hmi
                  refine lv_iload hx hb dL_areGoalsSo_180 (lv_at hl 5 rfl) ?_
                  refine zv_if_ge hx hb dL_areGoalsSo_182 (tgt := 189) (by decide) ⟨by omega, by omega⟩ (fun c_44 => ?_) (fun c_44 => by exfalso; omega)
                  refine lv_iload hx hb dL_areGoalsSo_189 (lv_at hl 5 rfl) ?_
                  refine lv_iload hx hb dL_areGoalsSo_191 (lv_at hl 11 rfl) ?_
                  refine zv_icmp_le hx hb dL_areGoalsSo_193 (tgt := 204) (by decide) ⟨by omega, by omega⟩ ⟨by omega, by omega⟩ (fun c_45 => by exfalso; omega) (fun c_45 => ?_)
                  refine lv_iload hx hb dL_areGoalsSo_196 (lv_at hl 5 rfl) ?_
                  refine lv_iload hx hb dL_areGoalsSo_198 (lv_at hl 11 rfl) ?_
                  refine zv_isub hx hb dL_areGoalsSo_200 ?_
                  refine lv_goto (tgt := 205) hx hb dL_areGoalsSo_201 (by decide) ?_
                  refine zv_icmp_ne hx hb dL_areGoalsSo_205 (tgt := 244) (by decide) ⟨by omega, by omega⟩ ⟨by omega, by omega⟩ (fun c_46 => by exfalso; omega) (fun c_46 => ?_)
                  refine lv_iload hx hb dL_areGoalsSo_208 (lv_at hl 5 rfl) ?_
                  refine zv_if_lt hx hb dL_areGoalsSo_210 (tgt := 230) (by decide) ⟨by omega, by omega⟩ (fun c_47 => by exfalso; omega) (fun c_47 => ?_)
                  refine lv_iload hx hb dL_areGoalsSo_213 (lv_at hl 5 rfl) ?_
                  refine lv_iload hx hb dL_areGoalsSo_215 (lv_at hl 1 rfl) ?_
                  refine zv_icmp_lt hx hb dL_areGoalsSo_217 (tgt := 244) (by decide) ⟨by omega, by omega⟩ ⟨by omega, by omega⟩ (fun c_48 => by exfalso; omega) (fun c_48 => ?_)
                  refine lv_iload hx hb dL_areGoalsSo_220 (lv_at hl 5 rfl) ?_
                  refine lv_iload hx hb dL_areGoalsSo_222 (lv_at hl 1 rfl) ?_
                  refine zv_isub hx hb dL_areGoalsSo_224 ?_
                  refine zv_iconst hx hb dL_areGoalsSo_225 ?_
                  refine zv_irem hx hb dL_areGoalsSo_226 (by omega) (by omega) (by omega) (by omega) ?_
                  refine zv_if_ne hx hb dL_areGoalsSo_227 (tgt := 244) (by decide) ⟨by omega, by omega⟩ (fun c_49 => by exfalso; omega) (fun c_49 => ?_)
                  refine lv_iload hx hb dL_areGoalsSo_230 (lv_at hl 1 rfl) ?_
                  refine zv_if_gt hx hb dL_areGoalsSo_232 (tgt := 240) (by decide) ⟨by omega, by omega⟩ (fun c_50 => ?_) (fun c_50 => by exfalso; omega)
                  refine zv_iconst hx hb dL_areGoalsSo_240 ?_
                  refine lv_goto (tgt := 245) hx hb dL_areGoalsSo_241 (by decide) ?_
                  exact j245_29  _ _ hP hD hS ls hl
              · refine zv_iconst hx hb dL_areGoalsSo_147 ?_
                refine lv_goto (tgt := 152) hx hb dL_areGoalsSo_148 (by decide) ?_
                refine lv_iload hx hb dL_areGoalsSo_152 (lv_at hl 5 rfl) ?_
                refine zv_if_lt hx hb dL_areGoalsSo_154 (tgt := 168) (by decide) ⟨by omega, by omega⟩ (fun c_51 => by exfalso; omega) (fun c_51 => ?_)
                refine lv_iload hx hb dL_areGoalsSo_157 (lv_at hl 5 rfl) ?_
                refine lv_iload hx hb dL_areGoalsSo_159 (lv_at hl 11 rfl) ?_
                refine zv_icmp_gt hx hb dL_areGoalsSo_161 (tgt := 168) (by decide) ⟨by omega, by omega⟩ ⟨by omega, by omega⟩ (fun c_52 => by exfalso; omega) (fun c_52 => ?_)
                refine zv_iconst hx hb dL_areGoalsSo_164 ?_
                refine lv_goto (tgt := 169) hx hb dL_areGoalsSo_165 (by decide) ?_
                refine zv_icmp_ne hx hb dL_areGoalsSo_169 (tgt := 244) (by decide) ⟨by omega, by omega⟩ ⟨by omega, by omega⟩ (fun c_53 => by exfalso; omega) (fun c_53 => ?_)
                refine lv_aload_n hx hb dL_areGoalsSo_172 rfl (lv_at hl 8 rfl) ?_
                refine lv_iload hx hb dL_areGoalsSo_173 (lv_at hl 7 rfl) ?_
                refine lv_iload hx hb dL_areGoalsSo_175 (lv_at hl 6 rfl) ?_
                refine zm_Vi (As := [.int (iI a), .int (iI b)]) (rest := []) (ws := [(tt, .inr (2, [.ref fl, .int (iI lim), .ref s1, .ref s2, .int (iI bs), .int (iI P), .int (iI sm)])), (fl, .inr (0, [.int (iI C), .int (iI R), .ref pn, .int (iI np)])), (pn, .inl (cI, 49, .inl (aI gn))), (s1, .inr (1, [.ref d1, .ref r1, .int (iI c1)])), (d1, .inl (cI, 16807, .inl (aI g1)))]) (wr := []) (n := 2) hx hb (hml.trans hl.1.symm) hts hown hK hP hD hS hA (c_X2_missingN l D cI cJ tt fl s1 s2 pn d1 r1 lim bs P sm C R np c1 gn g1 N (LZ C R N bs) a b hF hL hlm (⟨ha1, ha2, hb1, hb2⟩) (by omega) (by omega) (by omega) (by omega) _) (gd_V q_5467 q_466 q_467 q_1 q_468) (by decide +kernel) rfl ⟨Nat.le_of_ble_eq_true rfl, Nat.le_of_ble_eq_true rfl⟩ ⟨Nat.le_of_ble_eq_true rfl, Nat.le_of_ble_eq_true rfl⟩ [0, 1, 2, 3, 4] [] rfl rfl (by decide) (by decide) (by decide) 0 (ci := 2) rfl rfl rfl rfl (Nat.le_of_ble_eq_true rfl) dL_areGoalsSo_177 (fun r_55 u H locs hq_54 hP hD hS => ?_)
                have hP := hP.sub (ws' := [(tt, .inr (2, [.ref fl, .int (iI lim), .ref s1, .ref s2, .int (iI bs), .int (iI P), .int (iI sm)])), (fl, .inr (0, [.int (iI C), .int (iI R), .ref pn, .int (iI np)])), (pn, .inl (cI, 49, .inl (aI gn))), (s1, .inr (1, [.ref d1, .ref r1, .int (iI c1)])), (d1, .inl (cI, 16807, .inl (aI g1)))]) [0, 1, 2, 3, 4] rfl
                have hD := hD.sub (ws' := [(tt, .inr (2, [.ref fl, .int (iI lim), .ref s1, .ref s2, .int (iI bs), .int (iI P), .int (iI sm)])), (fl, .inr (0, [.int (iI C), .int (iI R), .ref pn, .int (iI np)])), (pn, .inl (cI, 49, .inl (aI gn))), (s1, .inr (1, [.ref d1, .ref r1, .int (iI c1)])), (d1, .inl (cI, 16807, .inl (aI g1)))]) [0, 1, 2, 3, 4] (by decide) rfl
                try dsimp only at hq_54
                have hmi := hq_54
                rw [← hle, ← ele] at hmi
                refine lv_iload hx hb dL_areGoalsSo_180 (lv_at hl 5 rfl) ?_
                refine zv_if_ge hx hb dL_areGoalsSo_182 (tgt := 189) (by decide) ⟨by omega, by omega⟩ (fun c_56 => ?_) (fun c_56 => by exfalso; omega)
                refine lv_iload hx hb dL_areGoalsSo_189 (lv_at hl 5 rfl) ?_
                refine lv_iload hx hb dL_areGoalsSo_191 (lv_at hl 11 rfl) ?_
                refine zv_icmp_le hx hb dL_areGoalsSo_193 (tgt := 204) (by decide) ⟨by omega, by omega⟩ ⟨by omega, by omega⟩ (fun c_57 => ?_) (fun c_57 => by exfalso; omega)
                refine zv_iconst hx hb dL_areGoalsSo_204 ?_
                refine zv_icmp_ne hx hb dL_areGoalsSo_205 (tgt := 244) (by decide) ⟨by omega, by omega⟩ ⟨by omega, by omega⟩ (fun c_58 => by exfalso; omega) (fun c_58 => ?_)
                refine lv_iload hx hb dL_areGoalsSo_208 (lv_at hl 5 rfl) ?_
                refine zv_if_lt hx hb dL_areGoalsSo_210 (tgt := 230) (by decide) ⟨by omega, by omega⟩ (fun c_59 => by exfalso; omega) (fun c_59 => ?_)
                refine lv_iload hx hb dL_areGoalsSo_213 (lv_at hl 5 rfl) ?_
                refine lv_iload hx hb dL_areGoalsSo_215 (lv_at hl 1 rfl) ?_
                refine zv_icmp_lt hx hb dL_areGoalsSo_217 (tgt := 244) (by decide) ⟨by omega, by omega⟩ ⟨by omega, by omega⟩ (fun c_60 => by exfalso; omega) (fun c_60 => ?_)
                refine lv_iload hx hb dL_areGoalsSo_220 (lv_at hl 5 rfl) ?_
                refine lv_iload hx hb dL_areGoalsSo_222 (lv_at hl 1 rfl) ?_
                refine zv_isub hx hb dL_areGoalsSo_224 ?_
                refine zv_iconst hx hb dL_areGoalsSo_225 ?_
                refine zv_irem hx hb dL_areGoalsSo_226 (by omega) (by omega) (by omega) (by omega) ?_
                refine zv_if_ne hx hb dL_areGoalsSo_227 (tgt := 244) (by decide) ⟨by omega, by omega⟩ (fun c_61 => by exfalso; omega) (fun c_61 => ?_)
                refine lv_iload hx hb dL_areGoalsSo_230 (lv_at hl 1 rfl) ?_
                refine zv_if_gt hx hb dL_areGoalsSo_232 (tgt := 240) (by decide) ⟨by omega, by omega⟩ (fun c_62 => ?_) (fun c_62 => ?_)
                · refine zv_iconst hx hb dL_areGoalsSo_240 ?_
                  refine lv_goto (tgt := 245) hx hb dL_areGoalsSo_241 (by decide) ?_
                  exact j245_29  _ _ hP hD hS ls hl
                · refine lv_iload hx hb dL_areGoalsSo_235 (lv_at hl 5 rfl) ?_
                  refine zv_if_ne hx hb dL_areGoalsSo_237 (tgt := 244) (by decide) ⟨by omega, by omega⟩ (fun c_63 => by exfalso; omega) (fun c_63 => ?_)
                  refine zv_iconst hx hb dL_areGoalsSo_240 ?_
                  refine lv_goto (tgt := 245) hx hb dL_areGoalsSo_241 (by decide) ?_
                  exact j245_29  _ _ hP hD hS ls hl
            refine lv_iload hx hb dL_areGoalsSo_124 (lv_at hl 3 rfl) ?_
            refine zv_if_le hx hb dL_areGoalsSo_126 (tgt := 133) (by decide) ⟨by omega, by omega⟩ (fun c_64 => ?_) (fun c_64 => ?_)
            · refine zv_iconst hx hb dL_areGoalsSo_133 ?_
              exact j134_28 0 (by omega) ls hl
            · refine zv_iconst hx hb dL_areGoalsSo_129 ?_
              refine lv_goto (tgt := 134) hx hb dL_areGoalsSo_130 (by decide) ?_
              exact j134_28 1 (by omega) ls hl
          refine lv_iload hx hb dL_areGoalsSo_107 (lv_at hl 0 rfl) ?_
          refine zv_if_ge hx hb dL_areGoalsSo_109 (tgt := 118) (by decide) ⟨by omega, by omega⟩ (fun c_65 => ?_) (fun c_65 => ?_)
          · refine lv_iload hx hb dL_areGoalsSo_118 (lv_at hl 0 rfl) ?_
            exact j120_27 y (by unfold absZ; split <;> omega) ls hl
          · refine lv_iload hx hb dL_areGoalsSo_112 (lv_at hl 0 rfl) ?_
            refine zv_ineg hx hb dL_areGoalsSo_114 ?_
            refine lv_goto (tgt := 120) hx hb dL_areGoalsSo_115 (by decide) ?_
            exact j120_27 (0 - y) (by unfold absZ; split <;> omega) ls hl
        refine lv_iload hx hb dL_areGoalsSo_94 (lv_at hl 1 rfl) ?_
        refine zv_if_ge hx hb dL_areGoalsSo_96 (tgt := 105) (by decide) ⟨by omega, by omega⟩ (fun c_66 => ?_) (fun c_66 => ?_)
        · refine lv_iload hx hb dL_areGoalsSo_105 (lv_at hl 1 rfl) ?_
          exact j107_26 x (by unfold absZ; split <;> omega) ls hl
        · refine lv_iload hx hb dL_areGoalsSo_99 (lv_at hl 1 rfl) ?_
          refine zv_ineg hx hb dL_areGoalsSo_101 ?_
          refine lv_goto (tgt := 107) hx hb dL_areGoalsSo_102 (by decide) ?_
          exact j107_26 (0 - x) (by unfold absZ; split <;> omega) ls hl
  exact loop29 60 0 0 0 (by omega) (by omega) rfl (by omega) _ _ hP hD hS ls (lv_sub hl [5, 6, 7, 4, 3, 2, 1, 0] rfl)
