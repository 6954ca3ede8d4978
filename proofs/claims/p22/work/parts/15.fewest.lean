set_option maxRecDepth 100000 in
set_option maxHeartbeats 4000000 in
theorem c_X2_fewestByTrying (l : Launch) (D : va_G) (cI cJ : ClassId) (fl pn : Nat) (C R np : Int) (gn : Nat → Int) (N : Int → Int) (hF : FlOK C R np N gn) : ∀ (n : Nat) (u v md mo : Int) (hu : u = -1 ∨ PlOK R u) (hv : PlOK R v) (hm0 : 0 ≤ md) (hm1 : md ≤ mo + 1) (hm2 : mo ≤ 60) (hm3 : mo < md + (n : Int)), PM l yX2_fewestByTrying (.code yX2_fewestByTrying cX2_fewestByTrying 7 (some .int)) (5 + n) [.ref fl, .int (iI u), .int (iI v), .int (iI md), .int (iI mo)] D cI cJ [(fl, .inr (0, [.int (iI C), .int (iI R), .ref pn, .int (iI np)])), (pn, .inl (cI, 49, .inl (aI gn)))] (FW C R N u v md mo) := by
  obtain ⟨hC1, hC2, hR1, hR2, hp1, hp2, -, -⟩ := id hF
  intro n
  induction n using Nat.strongRecOn with
  | ind n ih =>
  intro u v md mo hu hv hm0 hm1 hm2 hm3
  refine PM_of (by decide) rfl (Nat.le_of_ble_eq_true rfl) (fun p e s m below meth c ls hx hb hr hts hown hlk hml hK hP hl => ?_)
  have hl : lv_has ls 7 [(0, .ref fl), (1, .int (iI u)), (2, .int (iI v)), (3, .int (iI md)), (4, .int (iI mo))] := hl
  refine lv_iload_n hx hb dX2_fewestByTrying_0 rfl (lv_at hl 1 rfl) ?_
  refine zv_iconst hx hb dX2_fewestByTrying_1 ?_
  refine zv_icmp_eq hx hb dX2_fewestByTrying_2 (tgt := 23) (by decide) ⟨by rcases hu with h | ⟨h, h2, -⟩ <;> omega, by rcases hu with h | ⟨h, h2, -⟩ <;> omega⟩ ⟨by omega, by omega⟩ (fun c_1 => ?_) (fun c_1 => ?_)
  · refine lv_iload hx hb dX2_fewestByTrying_23 (lv_at hl 4 rfl) ?_
    refine zv_iconst hx hb dX2_fewestByTrying_25 ?_
    refine zv_iadd hx hb dX2_fewestByTrying_26 ?_
    exact PM_iret hx hb hr hlk dX2_fewestByTrying_27 (by first | exact FW_none (by assumption) | exact FW_far hF ⟨hu0, hu1, hu2⟩ (by omega) | exact FW_here (by assumption) (by omega) (by omega) | exact FW_4 (by omega) (by assumption) g1 g2 g3 g4 (by omega))
  · refine lv_iload_n hx hb dX2_fewestByTrying_5 rfl (lv_at hl 3 rfl) ?_
    rcases hu with hu | hu
    · exact absurd hu (by assumption)
    obtain ⟨hu0, hu1, hu2⟩ := id hu
    obtain ⟨hv0, hv1, hv2⟩ := id hv
    refine lv_iload_n hx hb dX2_fewestByTrying_6 rfl (lv_at hl 1 rfl) ?_
    refine zc_S (As := [.int (iI u)]) (rest := [.int (iI md)]) (ws := [(fl, .inr (0, [.int (iI C), .int (iI R), .ref pn, .int (iI np)])), (pn, .inl (cI, 49, .inl (aI gn)))]) (n := 1) hx hb (hml.trans hl.1.symm) hts hown hK hP (c_X2_squareOf l D cI cJ u (by omega) (by omega)) (gd_S q_183 q_102 q_1 q_103) (by decide +kernel) rfl ⟨by simp only [lvl]; omega, by simp only [lvl]; omega⟩ ⟨Nat.zero_le _, Nat.zero_le _⟩ [] rfl rfl (Nat.le_of_ble_eq_true rfl) dX2_fewestByTrying_7 (fun r_2 hr_2 => ?_)
    subst hr_2
    refine lv_iload_n hx hb dX2_fewestByTrying_10 rfl (lv_at hl 2 rfl) ?_
    refine zc_S (As := [.int (iI v)]) (rest := [.int (iI (u / 343)), .int (iI md)]) (ws := [(fl, .inr (0, [.int (iI C), .int (iI R), .ref pn, .int (iI np)])), (pn, .inl (cI, 49, .inl (aI gn)))]) (n := 1) hx hb (hml.trans hl.1.symm) hts hown hK hP (c_X2_squareOf l D cI cJ v (by omega) (by omega)) (gd_S q_183 q_102 q_1 q_103) (by decide +kernel) rfl ⟨by simp only [lvl]; omega, by simp only [lvl]; omega⟩ ⟨Nat.zero_le _, Nat.zero_le _⟩ [] rfl rfl (Nat.le_of_ble_eq_true rfl) dX2_fewestByTrying_11 (fun r_3 hr_3 => ?_)
    subst hr_3
    refine zc_S (As := [.int (iI (u / 343)), .int (iI (v / 343))]) (rest := [.int (iI md)]) (ws := [(fl, .inr (0, [.int (iI C), .int (iI R), .ref pn, .int (iI np)])), (pn, .inl (cI, 49, .inl (aI gn)))]) (n := 2) hx hb (hml.trans hl.1.symm) hts hown hK hP (c_X2_apart l D cI cJ (u / 343) (v / 343) (by omega) (by omega) (by omega) (by omega)) (gd_S q_441 q_442 q_1 q_443) (by decide +kernel) rfl ⟨by simp only [lvl]; omega, by simp only [lvl]; omega⟩ ⟨Nat.zero_le _, Nat.zero_le _⟩ [] rfl rfl (Nat.le_of_ble_eq_true rfl) dX2_fewestByTrying_14 (fun r_4 hr_4 => ?_)
    subst hr_4
    have hap : 0 ≤ apZ u v ∧ apZ u v ≤ 100 := by unfold apZ absZ; (repeat' split) <;> omega
    have hap0 : (absZ (u / 343 / 7 - v / 343 / 7) + absZ (u / 343 % 7 - v / 343 % 7)) = apZ u v := rfl
    refine zv_iadd hx hb dX2_fewestByTrying_17 ?_
    refine lv_iload hx hb dX2_fewestByTrying_18 (lv_at hl 4 rfl) ?_
    refine zv_icmp_le hx hb dX2_fewestByTrying_20 (tgt := 28) (by decide) ⟨by omega, by omega⟩ ⟨by omega, by omega⟩ (fun c_5 => ?_) (fun c_5 => ?_)
    · refine lv_iload_n hx hb dX2_fewestByTrying_28 rfl (lv_at hl 1 rfl) ?_
      refine lv_iload_n hx hb dX2_fewestByTrying_29 rfl (lv_at hl 2 rfl) ?_
      refine zv_icmp_ne hx hb dX2_fewestByTrying_30 (tgt := 35) (by decide) ⟨by omega, by omega⟩ ⟨by omega, by omega⟩ (fun c_6 => ?_) (fun c_6 => ?_)
      · obtain ⟨n, rfl⟩ : ∃ n0, n = n0 + 1 := ⟨n - 1, by omega⟩
        refine lv_iload hx hb dX2_fewestByTrying_35 (lv_at hl 4 rfl) ?_
        refine zv_iconst hx hb dX2_fewestByTrying_37 ?_
        refine zv_iadd hx hb dX2_fewestByTrying_38 ?_
        refine lv_istore (lv' := [(5, .int (iI (mo + 1))), (0, .ref fl), (1, .int (iI u)), (2, .int (iI v)), (3, .int (iI md)), (4, .int (iI mo))]) hx hb dX2_fewestByTrying_39 hl (by decide) rfl (fun ls hl => ?_)
        refine zv_iconst hx hb dX2_fewestByTrying_41 ?_
        refine lv_istore (lv' := [(6, .int (iI 0)), (5, .int (iI (mo + 1))), (0, .ref fl), (1, .int (iI u)), (2, .int (iI v)), (3, .int (iI md)), (4, .int (iI mo))]) hx hb dX2_fewestByTrying_42 hl (by decide) rfl (fun ls hl => ?_)
        refine lv_iload hx hb dX2_fewestByTrying_44 (lv_at hl 0 rfl) ?_
        refine zv_iconst hx hb dX2_fewestByTrying_46 ?_
        refine zv_icmp_ge hx hb dX2_fewestByTrying_47 (tgt := 77) (by decide) ⟨by omega, by omega⟩ ⟨by omega, by omega⟩ (fun c_7 => by exfalso; omega) (fun c_7 => ?_)
        refine lv_aload_n hx hb dX2_fewestByTrying_50 rfl (lv_at hl 2 rfl) ?_
        refine lv_aload_n hx hb dX2_fewestByTrying_51 rfl (lv_at hl 2 rfl) ?_
        refine lv_iload_n hx hb dX2_fewestByTrying_52 rfl (lv_at hl 3 rfl) ?_
        refine lv_iload hx hb dX2_fewestByTrying_53 (lv_at hl 0 rfl) ?_
        refine zc_V (As := [.int (iI u), .int (iI 0)]) (rest := [.ref fl]) (ws := [(fl, .inr (0, [.int (iI C), .int (iI R), .ref pn, .int (iI np)])), (pn, .inl (cI, 49, .inl (aI gn)))]) (n := 2) hx hb (hml.trans hl.1.symm) hts hown hK hP (c_X0_after l D cI cJ fl pn C R np gn N u 0 hF (by omega) (by omega) (by omega) (by omega) (by omega)) (gd_V q_97 q_98 q_99 q_3 q_100) (by decide +kernel) rfl ⟨by simp only [lvl]; omega, by simp only [lvl]; omega⟩ ⟨Nat.zero_le _, Nat.zero_le _⟩ [0, 1] rfl 0 (ci := 0) rfl rfl rfl rfl (Nat.le_of_ble_eq_true rfl) dX2_fewestByTrying_55 (fun r_8 hr_8 => ?_)
        subst hr_8
        refine lv_iload_n hx hb dX2_fewestByTrying_58 rfl (lv_at hl 4 rfl) ?_
        refine lv_iload_n hx hb dX2_fewestByTrying_59 rfl (lv_at hl 5 rfl) ?_
        refine zv_iconst hx hb dX2_fewestByTrying_60 ?_
        refine zv_iadd hx hb dX2_fewestByTrying_61 ?_
        refine lv_iload hx hb dX2_fewestByTrying_62 (lv_at hl 1 rfl) ?_
        refine zv_iconst hx hb dX2_fewestByTrying_64 ?_
        refine zv_isub hx hb dX2_fewestByTrying_65 ?_
        refine zc_S (As := [.ref fl, .int (iI (aftZ C R N u 0)), .int (iI v), .int (iI (md + 1)), .int (iI ((mo + 1) - 1))]) (rest := []) (ws := [(fl, .inr (0, [.int (iI C), .int (iI R), .ref pn, .int (iI np)])), (pn, .inl (cI, 49, .inl (aI gn)))]) (n := 5) hx hb (hml.trans hl.1.symm) hts hown hK hP (ih n (by omega) (aftZ C R N u 0) v (md + 1) (mo + 1 - 1) (aftZ_ok hF ⟨hu0, hu1, hu2⟩) hv (by omega) (by omega) (by omega) (by omega)) (gd_S q_438 q_439 q_1 q_440) (by decide +kernel) rfl ⟨by simp only [lvl]; omega, by simp only [lvl]; omega⟩ ⟨Nat.zero_le _, Nat.zero_le _⟩ [0, 1] rfl rfl (Nat.le_of_ble_eq_true rfl) dX2_fewestByTrying_66 (fun r_9 hr_9 => ?_)
        obtain ⟨f1, rfl⟩ : ∃ f : Int, f = r_9 := ⟨_, rfl⟩
        have g1 := hr_9
        obtain ⟨ga1, -, -, gd1⟩ := id hr_9
        refine lv_istore (lv' := [(5, .int (iI f1)), (6, .int (iI 0)), (0, .ref fl), (1, .int (iI u)), (2, .int (iI v)), (3, .int (iI md)), (4, .int (iI mo))]) hx hb dX2_fewestByTrying_69 hl (by decide) rfl (fun ls hl => ?_)
        refine zv_iinc (k := 1) (lv' := [(6, .int (iI 1)), (5, .int (iI f1)), (0, .ref fl), (1, .int (iI u)), (2, .int (iI v)), (3, .int (iI md)), (4, .int (iI mo))]) hx hb dX2_fewestByTrying_71 hl rfl (by decide) rfl (fun ls hl => ?_)
        refine lv_goto (tgt := 44) hx hb dX2_fewestByTrying_74 (by decide) ?_
        refine lv_iload hx hb dX2_fewestByTrying_44 (lv_at hl 0 rfl) ?_
        refine zv_iconst hx hb dX2_fewestByTrying_46 ?_
        refine zv_icmp_ge hx hb dX2_fewestByTrying_47 (tgt := 77) (by decide) ⟨by omega, by omega⟩ ⟨by omega, by omega⟩ (fun c_10 => by exfalso; omega) (fun c_10 => ?_)
        refine lv_aload_n hx hb dX2_fewestByTrying_50 rfl (lv_at hl 2 rfl) ?_
        refine lv_aload_n hx hb dX2_fewestByTrying_51 rfl (lv_at hl 2 rfl) ?_
        refine lv_iload_n hx hb dX2_fewestByTrying_52 rfl (lv_at hl 3 rfl) ?_
        refine lv_iload hx hb dX2_fewestByTrying_53 (lv_at hl 0 rfl) ?_
        refine zc_V (As := [.int (iI u), .int (iI 1)]) (rest := [.ref fl]) (ws := [(fl, .inr (0, [.int (iI C), .int (iI R), .ref pn, .int (iI np)])), (pn, .inl (cI, 49, .inl (aI gn)))]) (n := 2) hx hb (hml.trans hl.1.symm) hts hown hK hP (c_X0_after l D cI cJ fl pn C R np gn N u 1 hF (by omega) (by omega) (by omega) (by omega) (by omega)) (gd_V q_97 q_98 q_99 q_3 q_100) (by decide +kernel) rfl ⟨by simp only [lvl]; omega, by simp only [lvl]; omega⟩ ⟨Nat.zero_le _, Nat.zero_le _⟩ [0, 1] rfl 0 (ci := 0) rfl rfl rfl rfl (Nat.le_of_ble_eq_true rfl) dX2_fewestByTrying_55 (fun r_11 hr_11 => ?_)
        subst hr_11
        refine lv_iload_n hx hb dX2_fewestByTrying_58 rfl (lv_at hl 4 rfl) ?_
        refine lv_iload_n hx hb dX2_fewestByTrying_59 rfl (lv_at hl 5 rfl) ?_
        refine zv_iconst hx hb dX2_fewestByTrying_60 ?_
        refine zv_iadd hx hb dX2_fewestByTrying_61 ?_
        refine lv_iload hx hb dX2_fewestByTrying_62 (lv_at hl 1 rfl) ?_
        refine zv_iconst hx hb dX2_fewestByTrying_64 ?_
        refine zv_isub hx hb dX2_fewestByTrying_65 ?_
        refine zc_S (As := [.ref fl, .int (iI (aftZ C R N u 1)), .int (iI v), .int (iI (md + 1)), .int (iI (f1 - 1))]) (rest := []) (ws := [(fl, .inr (0, [.int (iI C), .int (iI R), .ref pn, .int (iI np)])), (pn, .inl (cI, 49, .inl (aI gn)))]) (n := 5) hx hb (hml.trans hl.1.symm) hts hown hK hP (ih n (by omega) (aftZ C R N u 1) v (md + 1) (f1 - 1) (aftZ_ok hF ⟨hu0, hu1, hu2⟩) hv (by omega) (by omega) (by omega) (by omega)) (gd_S q_438 q_439 q_1 q_440) (by decide +kernel) rfl ⟨by simp only [lvl]; omega, by simp only [lvl]; omega⟩ ⟨Nat.zero_le _, Nat.zero_le _⟩ [0, 1] rfl rfl (Nat.le_of_ble_eq_true rfl) dX2_fewestByTrying_66 (fun r_12 hr_12 => ?_)
        obtain ⟨f2, rfl⟩ : ∃ f : Int, f = r_12 := ⟨_, rfl⟩
        have g2 := hr_12
        obtain ⟨ga2, -, -, gd2⟩ := id hr_12
        refine lv_istore (lv' := [(5, .int (iI f2)), (6, .int (iI 1)), (0, .ref fl), (1, .int (iI u)), (2, .int (iI v)), (3, .int (iI md)), (4, .int (iI mo))]) hx hb dX2_fewestByTrying_69 hl (by decide) rfl (fun ls hl => ?_)
        refine zv_iinc (k := 1) (lv' := [(6, .int (iI 2)), (5, .int (iI f2)), (0, .ref fl), (1, .int (iI u)), (2, .int (iI v)), (3, .int (iI md)), (4, .int (iI mo))]) hx hb dX2_fewestByTrying_71 hl rfl (by decide) rfl (fun ls hl => ?_)
        refine lv_goto (tgt := 44) hx hb dX2_fewestByTrying_74 (by decide) ?_
        refine lv_iload hx hb dX2_fewestByTrying_44 (lv_at hl 0 rfl) ?_
        refine zv_iconst hx hb dX2_fewestByTrying_46 ?_
        refine zv_icmp_ge hx hb dX2_fewestByTrying_47 (tgt := 77) (by decide) ⟨by omega, by omega⟩ ⟨by omega, by omega⟩ (fun c_13 => by exfalso; omega) (fun c_13 => ?_)
        refine lv_aload_n hx hb dX2_fewestByTrying_50 rfl (lv_at hl 2 rfl) ?_
        refine lv_aload_n hx hb dX2_fewestByTrying_51 rfl (lv_at hl 2 rfl) ?_
        refine lv_iload_n hx hb dX2_fewestByTrying_52 rfl (lv_at hl 3 rfl) ?_
        refine lv_iload hx hb dX2_fewestByTrying_53 (lv_at hl 0 rfl) ?_
        refine zc_V (As := [.int (iI u), .int (iI 2)]) (rest := [.ref fl]) (ws := [(fl, .inr (0, [.int (iI C), .int (iI R), .ref pn, .int (iI np)])), (pn, .inl (cI, 49, .inl (aI gn)))]) (n := 2) hx hb (hml.trans hl.1.symm) hts hown hK hP (c_X0_after l D cI cJ fl pn C R np gn N u 2 hF (by omega) (by omega) (by omega) (by omega) (by omega)) (gd_V q_97 q_98 q_99 q_3 q_100) (by decide +kernel) rfl ⟨by simp only [lvl]; omega, by simp only [lvl]; omega⟩ ⟨Nat.zero_le _, Nat.zero_le _⟩ [0, 1] rfl 0 (ci := 0) rfl rfl rfl rfl (Nat.le_of_ble_eq_true rfl) dX2_fewestByTrying_55 (fun r_14 hr_14 => ?_)
        subst hr_14
        refine lv_iload_n hx hb dX2_fewestByTrying_58 rfl (lv_at hl 4 rfl) ?_
        refine lv_iload_n hx hb dX2_fewestByTrying_59 rfl (lv_at hl 5 rfl) ?_
        refine zv_iconst hx hb dX2_fewestByTrying_60 ?_
        refine zv_iadd hx hb dX2_fewestByTrying_61 ?_
        refine lv_iload hx hb dX2_fewestByTrying_62 (lv_at hl 1 rfl) ?_
        refine zv_iconst hx hb dX2_fewestByTrying_64 ?_
        refine zv_isub hx hb dX2_fewestByTrying_65 ?_
        refine zc_S (As := [.ref fl, .int (iI (aftZ C R N u 2)), .int (iI v), .int (iI (md + 1)), .int (iI (f2 - 1))]) (rest := []) (ws := [(fl, .inr (0, [.int (iI C), .int (iI R), .ref pn, .int (iI np)])), (pn, .inl (cI, 49, .inl (aI gn)))]) (n := 5) hx hb (hml.trans hl.1.symm) hts hown hK hP (ih n (by omega) (aftZ C R N u 2) v (md + 1) (f2 - 1) (aftZ_ok hF ⟨hu0, hu1, hu2⟩) hv (by omega) (by omega) (by omega) (by omega)) (gd_S q_438 q_439 q_1 q_440) (by decide +kernel) rfl ⟨by simp only [lvl]; omega, by simp only [lvl]; omega⟩ ⟨Nat.zero_le _, Nat.zero_le _⟩ [0, 1] rfl rfl (Nat.le_of_ble_eq_true rfl) dX2_fewestByTrying_66 (fun r_15 hr_15 => ?_)
        obtain ⟨f3, rfl⟩ : ∃ f : Int, f = r_15 := ⟨_, rfl⟩
        have g3 := hr_15
        obtain ⟨ga3, -, -, gd3⟩ := id hr_15
        refine lv_istore (lv' := [(5, .int (iI f3)), (6, .int (iI 2)), (0, .ref fl), (1, .int (iI u)), (2, .int (iI v)), (3, .int (iI md)), (4, .int (iI mo))]) hx hb dX2_fewestByTrying_69 hl (by decide) rfl (fun ls hl => ?_)
        refine zv_iinc (k := 1) (lv' := [(6, .int (iI 3)), (5, .int (iI f3)), (0, .ref fl), (1, .int (iI u)), (2, .int (iI v)), (3, .int (iI md)), (4, .int (iI mo))]) hx hb dX2_fewestByTrying_71 hl rfl (by decide) rfl (fun ls hl => ?_)
        refine lv_goto (tgt := 44) hx hb dX2_fewestByTrying_74 (by decide) ?_
        refine lv_iload hx hb dX2_fewestByTrying_44 (lv_at hl 0 rfl) ?_
        refine zv_iconst hx hb dX2_fewestByTrying_46 ?_
        refine zv_icmp_ge hx hb dX2_fewestByTrying_47 (tgt := 77) (by decide) ⟨by omega, by omega⟩ ⟨by omega, by omega⟩ (fun c_16 => by exfalso; omega) (fun c_16 => ?_)
        refine lv_aload_n hx hb dX2_fewestByTrying_50 rfl (lv_at hl 2 rfl) ?_
        refine lv_aload_n hx hb dX2_fewestByTrying_51 rfl (lv_at hl 2 rfl) ?_
        refine lv_iload_n hx hb dX2_fewestByTrying_52 rfl (lv_at hl 3 rfl) ?_
        refine lv_iload hx hb dX2_fewestByTrying_53 (lv_at hl 0 rfl) ?_
        refine zc_V (As := [.int (iI u), .int (iI 3)]) (rest := [.ref fl]) (ws := [(fl, .inr (0, [.int (iI C), .int (iI R), .ref pn, .int (iI np)])), (pn, .inl (cI, 49, .inl (aI gn)))]) (n := 2) hx hb (hml.trans hl.1.symm) hts hown hK hP (c_X0_after l D cI cJ fl pn C R np gn N u 3 hF (by omega) (by omega) (by omega) (by omega) (by omega)) (gd_V q_97 q_98 q_99 q_3 q_100) (by decide +kernel) rfl ⟨by simp only [lvl]; omega, by simp only [lvl]; omega⟩ ⟨Nat.zero_le _, Nat.zero_le _⟩ [0, 1] rfl 0 (ci := 0) rfl rfl rfl rfl (Nat.le_of_ble_eq_true rfl) dX2_fewestByTrying_55 (fun r_17 hr_17 => ?_)
        subst hr_17
        refine lv_iload_n hx hb dX2_fewestByTrying_58 rfl (lv_at hl 4 rfl) ?_
        refine lv_iload_n hx hb dX2_fewestByTrying_59 rfl (lv_at hl 5 rfl) ?_
        refine zv_iconst hx hb dX2_fewestByTrying_60 ?_
        refine zv_iadd hx hb dX2_fewestByTrying_61 ?_
        refine lv_iload hx hb dX2_fewestByTrying_62 (lv_at hl 1 rfl) ?_
        refine zv_iconst hx hb dX2_fewestByTrying_64 ?_
        refine zv_isub hx hb dX2_fewestByTrying_65 ?_
        refine zc_S (As := [.ref fl, .int (iI (aftZ C R N u 3)), .int (iI v), .int (iI (md + 1)), .int (iI (f3 - 1))]) (rest := []) (ws := [(fl, .inr (0, [.int (iI C), .int (iI R), .ref pn, .int (iI np)])), (pn, .inl (cI, 49, .inl (aI gn)))]) (n := 5) hx hb (hml.trans hl.1.symm) hts hown hK hP (ih n (by omega) (aftZ C R N u 3) v (md + 1) (f3 - 1) (aftZ_ok hF ⟨hu0, hu1, hu2⟩) hv (by omega) (by omega) (by omega) (by omega)) (gd_S q_438 q_439 q_1 q_440) (by decide +kernel) rfl ⟨by simp only [lvl]; omega, by simp only [lvl]; omega⟩ ⟨Nat.zero_le _, Nat.zero_le _⟩ [0, 1] rfl rfl (Nat.le_of_ble_eq_true rfl) dX2_fewestByTrying_66 (fun r_18 hr_18 => ?_)
        obtain ⟨f4, rfl⟩ : ∃ f : Int, f = r_18 := ⟨_, rfl⟩
        have g4 := hr_18
        obtain ⟨ga4, -, -, gd4⟩ := id hr_18
        refine lv_istore (lv' := [(5, .int (iI f4)), (6, .int (iI 3)), (0, .ref fl), (1, .int (iI u)), (2, .int (iI v)), (3, .int (iI md)), (4, .int (iI mo))]) hx hb dX2_fewestByTrying_69 hl (by decide) rfl (fun ls hl => ?_)
        refine zv_iinc (k := 1) (lv' := [(6, .int (iI 4)), (5, .int (iI f4)), (0, .ref fl), (1, .int (iI u)), (2, .int (iI v)), (3, .int (iI md)), (4, .int (iI mo))]) hx hb dX2_fewestByTrying_71 hl rfl (by decide) rfl (fun ls hl => ?_)
        refine lv_goto (tgt := 44) hx hb dX2_fewestByTrying_74 (by decide) ?_
        refine lv_iload hx hb dX2_fewestByTrying_44 (lv_at hl 0 rfl) ?_
        refine zv_iconst hx hb dX2_fewestByTrying_46 ?_
        refine zv_icmp_ge hx hb dX2_fewestByTrying_47 (tgt := 77) (by decide) ⟨by omega, by omega⟩ ⟨by omega, by omega⟩ (fun c_19 => ?_) (fun c_19 => by exfalso; omega)
        refine lv_iload hx hb dX2_fewestByTrying_77 (lv_at hl 1 rfl) ?_
        exact PM_iret hx hb hr hlk dX2_fewestByTrying_79 (by first | exact FW_none (by assumption) | exact FW_far hF ⟨hu0, hu1, hu2⟩ (by omega) | exact FW_here (by assumption) (by omega) (by omega) | exact FW_4 (by omega) (by assumption) g1 g2 g3 g4 (by omega))
      · refine lv_iload_n hx hb dX2_fewestByTrying_33 rfl (lv_at hl 3 rfl) ?_
        exact PM_iret hx hb hr hlk dX2_fewestByTrying_34 (by first | exact FW_none (by assumption) | exact FW_far hF ⟨hu0, hu1, hu2⟩ (by omega) | exact FW_here (by assumption) (by omega) (by omega) | exact FW_4 (by omega) (by assumption) g1 g2 g3 g4 (by omega))
    · refine lv_iload hx hb dX2_fewestByTrying_23 (lv_at hl 4 rfl) ?_
      refine zv_iconst hx hb dX2_fewestByTrying_25 ?_
      refine zv_iadd hx hb dX2_fewestByTrying_26 ?_
      exact PM_iret hx hb hr hlk dX2_fewestByTrying_27 (by first | exact FW_none (by assumption) | exact FW_far hF ⟨hu0, hu1, hu2⟩ (by omega) | exact FW_here (by assumption) (by omega) (by omega) | exact FW_4 (by omega) (by assumption) g1 g2 g3 g4 (by omega))
