set_option maxRecDepth 100000 in
set_option maxHeartbeats 4000000 in
theorem c_X3_after (l : Launch) (D : va_G) (cI cJ : ClassId) (mm ac ar al aq ab : Nat) (th C R lim np qb qs wd sm : Int) (gc gr : Nat → Int) (N : Int → Int) (x d : Int) (hM : MdOK C R np N gc gr) (hx0 : 0 ≤ x) (hx1 : x < 16807) (hxr : x / 343 / 7 < R) (hd0 : 0 ≤ d) (hd1 : d ≤ 3) : PM l yX3_after (.code yX3_after cX3_after 8 (some .int)) 3 [.ref mm, .int (iI x), .int (iI d)] D cI cJ [(mm, .inr (3, [.int (iI th), .int (iI C), .int (iI R), .int (iI lim), .int (iI np), .ref ac, .ref ar, .int (iI qb), .int (iI qs), .int (iI wd), .int (iI sm), .ref al, .ref aq, .ref ab])), (ac, .inl (cI, 3, .inl (aI gc))), (ar, .inl (cI, 3, .inl (aI gr)))] (fun r => r = tM (aftZ C R N (tauZ x) d)) := by
  obtain ⟨hC1, hC2, hR1, hR2, hp1, hp2, -, -⟩ := id hM
  have hwb := wRZ_b hM.Fl (c := x / 343 % 7) (r := x / 343 / 7) (w := x % 343) (by omega) (by omega) (by omega)
  have hwc := wLZ_b hM.Fl (c := x / 343 % 7 - 1) (r := x / 343 / 7) (w := x % 343) (by omega) (by omega) (by omega)
  refine PM_of (by decide) rfl (Nat.le_of_ble_eq_true rfl) (fun p e s m below meth c ls hx hb hr hts hown hlk hml hK hP hl => ?_)
  have hl : lv_has ls 8 [(0, .ref mm), (1, .int (iI x)), (2, .int (iI d))] := hl
  refine lv_iload_n hx hb dX3_after_0 rfl (lv_at hl 1 rfl) ?_
  refine zv_sipush hx hb dX3_after_1 (by decide) ?_
  refine zv_idiv hx hb dX3_after_4 (by omega) (by omega) (by omega) (by omega) ?_
  refine lv_istore_n (lv' := [(3, .int (iI (x / 343))), (0, .ref mm), (1, .int (iI x)), (2, .int (iI d))]) hx hb dX3_after_5 rfl hl (by decide) rfl (fun ls hl => ?_)
  refine lv_iload_n hx hb dX3_after_6 rfl (lv_at hl 2 rfl) ?_
  refine zv_sipush hx hb dX3_after_7 (by decide) ?_
  refine zv_irem hx hb dX3_after_10 (by omega) (by omega) (by omega) (by omega) ?_
  refine lv_istore (lv' := [(4, .int (iI (x % 343))), (3, .int (iI (x / 343))), (0, .ref mm), (1, .int (iI x)), (2, .int (iI d))]) hx hb dX3_after_11 hl (by decide) rfl (fun ls hl => ?_)
  rcases (show d = 0 ∨ d = 1 ∨ d = 2 ∨ d = 3 by omega) with rfl | rfl | rfl | rfl
  · skip
    refine lv_iload_n hx hb dX3_after_13 rfl (lv_at hl 1 rfl) ?_
    refine zv_bipush hx hb dX3_after_14 (by decide) ?_
    refine zv_irem hx hb dX3_after_16 (by omega) (by omega) (by omega) (by omega) ?_
    refine lv_iload_n hx hb dX3_after_17 rfl (lv_at hl 4 rfl) ?_
    refine zv_iconst hx hb dX3_after_18 ?_
    refine zv_icmp_ne hx hb dX3_after_19 (tgt := 26) (by decide) ⟨by omega, by omega⟩ ⟨by omega, by omega⟩ (fun c_1 => ?_) (fun c_1 => by exfalso; omega)
    refine lv_iload_n hx hb dX3_after_26 rfl (lv_at hl 4 rfl) ?_
    refine zv_iconst hx hb dX3_after_27 ?_
    refine zv_icmp_ne hx hb dX3_after_28 (tgt := 35) (by decide) ⟨by omega, by omega⟩ ⟨by omega, by omega⟩ (fun c_2 => ?_) (fun c_2 => by exfalso; omega)
    refine zv_iconst hx hb dX3_after_35 ?_
    refine zv_iadd hx hb dX3_after_36 ?_
    refine zv_top (y := x / 343 % 7) (by omega) ?_
    refine lv_istore (lv' := [(5, .int (iI (x / 343 % 7))), (4, .int (iI (x % 343))), (3, .int (iI (x / 343))), (0, .ref mm), (1, .int (iI x)), (2, .int (iI 0))]) hx hb dX3_after_37 hl (by decide) rfl (fun ls hl => ?_)
    refine lv_iload_n hx hb dX3_after_39 rfl (lv_at hl 2 rfl) ?_
    refine zv_bipush hx hb dX3_after_40 (by decide) ?_
    refine zv_idiv hx hb dX3_after_42 (by omega) (by omega) (by omega) (by omega) ?_
    refine lv_iload_n hx hb dX3_after_43 rfl (lv_at hl 5 rfl) ?_
    refine zv_iconst hx hb dX3_after_44 ?_
    refine zv_icmp_ne hx hb dX3_after_45 (tgt := 52) (by decide) ⟨by omega, by omega⟩ ⟨by omega, by omega⟩ (fun c_3 => ?_) (fun c_3 => by exfalso; omega)
    refine lv_iload_n hx hb dX3_after_52 rfl (lv_at hl 5 rfl) ?_
    refine zv_if_ne hx hb dX3_after_53 (tgt := 60) (by decide) ⟨by omega, by omega⟩ (fun c_4 => by exfalso; omega) (fun c_4 => ?_)
    refine zv_iconst hx hb dX3_after_56 ?_
    refine lv_goto (tgt := 61) hx hb dX3_after_57 (by decide) ?_
    refine zv_iadd hx hb dX3_after_61 ?_
    refine zv_top (y := x / 343 / 7 - 1) (by omega) ?_
    refine lv_istore (lv' := [(6, .int (iI (x / 343 / 7 - 1))), (5, .int (iI (x / 343 % 7))), (4, .int (iI (x % 343))), (3, .int (iI (x / 343))), (0, .ref mm), (1, .int (iI x)), (2, .int (iI 0))]) hx hb dX3_after_62 hl (by decide) rfl (fun ls hl => ?_)
    refine lv_aload_n hx hb dX3_after_64 rfl (lv_at hl 4 rfl) ?_
    refine lv_iload hx hb dX3_after_65 (lv_at hl 1 rfl) ?_
    refine lv_iload hx hb dX3_after_67 (lv_at hl 0 rfl) ?_
    refine zc_V (As := [.int (iI (x / 343 % 7)), .int (iI (x / 343 / 7 - 1))]) (rest := []) (ws := [(mm, .inr (3, [.int (iI th), .int (iI C), .int (iI R), .int (iI lim), .int (iI np), .ref ac, .ref ar, .int (iI qb), .int (iI qs), .int (iI wd), .int (iI sm), .ref al, .ref aq, .ref ab])), (ac, .inl (cI, 3, .inl (aI gc))), (ar, .inl (cI, 3, .inl (aI gr)))]) (n := 2) hx hb (hml.trans hl.1.symm) hts hown hK hP (c_X3_isSquare l D cI cJ mm ac ar al aq ab th C R lim np qb qs wd sm gc gr N (x / 343 % 7) (x / 343 / 7 - 1) hM (by omega) (by omega) (by omega) (by omega)) (gd_V q_493 q_495 q_1016 q_6 q_496) (by decide +kernel) rfl ⟨Nat.le_of_ble_eq_true rfl, Nat.le_of_ble_eq_true rfl⟩ ⟨Nat.zero_le _, Nat.zero_le _⟩ [0, 1, 2] rfl 0 (ci := 3) rfl rfl rfl rfl (Nat.le_of_ble_eq_true rfl) dX3_after_69 (fun r_5 hr_5 => ?_)
    refine zv_if_eq hx hb dX3_after_72 (tgt := 89) (by decide) ⟨by omega, by omega⟩ (fun c_6 => ?_) (fun c_6 => ?_)
    · refine zv_iconst hx hb dX3_after_89 ?_
      exact PM_iret hx hb hr hlk dX3_after_90 (by (first | rw [maf_0 hC2 hR2 hx0 hx1] | rw [maf_1 hM hx0 hx1] | rw [maf_2 hC2 hR2 hx0 hx1] | rw [maf_3 hM hx0 hx1]); first | (rw [if_neg (by omega)]; done) | (rw [if_pos (by omega)]; try omega))
    · refine lv_aload_n hx hb dX3_after_75 rfl (lv_at hl 4 rfl) ?_
      refine lv_iload hx hb dX3_after_76 (lv_at hl 1 rfl) ?_
      refine lv_iload hx hb dX3_after_78 (lv_at hl 0 rfl) ?_
      refine zc_S (As := [.int (iI (x / 343 % 7)), .int (iI (x / 343 / 7 - 1))]) (rest := [.ref mm]) (ws := [(mm, .inr (3, [.int (iI th), .int (iI C), .int (iI R), .int (iI lim), .int (iI np), .ref ac, .ref ar, .int (iI qb), .int (iI qs), .int (iI wd), .int (iI sm), .ref al, .ref aq, .ref ab])), (ac, .inl (cI, 3, .inl (aI gc))), (ar, .inl (cI, 3, .inl (aI gr)))]) (n := 2) hx hb (hml.trans hl.1.symm) hts hown hK hP (c_X3_squareOf l D cI cJ (x / 343 % 7) (x / 343 / 7 - 1)) (gd_S q_500 q_501 q_6 q_502) (by decide +kernel) rfl ⟨Nat.le_of_ble_eq_true rfl, Nat.le_of_ble_eq_true rfl⟩ ⟨Nat.zero_le _, Nat.zero_le _⟩ [] rfl rfl (Nat.le_of_ble_eq_true rfl) dX3_after_80 (fun r_7 hr_7 => ?_)
      subst hr_7
      refine zc_V (As := [.int (iI (7 * (x / 343 / 7 - 1) + (x / 343 % 7)))]) (rest := []) (ws := [(mm, .inr (3, [.int (iI th), .int (iI C), .int (iI R), .int (iI lim), .int (iI np), .ref ac, .ref ar, .int (iI qb), .int (iI qs), .int (iI wd), .int (iI sm), .ref al, .ref aq, .ref ab])), (ac, .inl (cI, 3, .inl (aI gc))), (ar, .inl (cI, 3, .inl (aI gr)))]) (n := 1) hx hb (hml.trans hl.1.symm) hts hown hK hP (c_X3_isPillar l D cI cJ mm ac ar al aq ab th C R lim np qb qs wd sm gc gr N (7 * (x / 343 / 7 - 1) + (x / 343 % 7)) hM (by omega) (by omega)) (gd_V q_503 q_505 q_1017 q_6 q_506) (by decide +kernel) rfl ⟨Nat.le_of_ble_eq_true rfl, Nat.le_of_ble_eq_true rfl⟩ ⟨Nat.zero_le _, Nat.zero_le _⟩ [0, 1, 2] rfl 0 (ci := 3) rfl rfl rfl rfl (Nat.le_of_ble_eq_true rfl) dX3_after_83 (fun r_8 hr_8 => ?_)
      have hpq := hr_8.2 (x / 343 % 7) (x / 343 / 7 - 1) (by omega) (by omega) (by omega) (by omega) (by omega)
      refine zv_if_eq hx hb dX3_after_86 (tgt := 91) (by decide) ⟨by omega, by omega⟩ (fun c_9 => ?_) (fun c_9 => ?_)
      · refine lv_iload_n hx hb dX3_after_91 rfl (lv_at hl 6 rfl) ?_
        refine zv_iconst hx hb dX3_after_92 ?_
        refine zv_icmp_ne hx hb dX3_after_93 (tgt := 111) (by decide) ⟨by omega, by omega⟩ ⟨by omega, by omega⟩ (fun c_10 => ?_) (fun c_10 => by exfalso; omega)
        refine lv_iload_n hx hb dX3_after_111 rfl (lv_at hl 6 rfl) ?_
        refine zv_iconst hx hb dX3_after_112 ?_
        refine zv_icmp_ne hx hb dX3_after_113 (tgt := 129) (by decide) ⟨by omega, by omega⟩ ⟨by omega, by omega⟩ (fun c_11 => ?_) (fun c_11 => by exfalso; omega)
        refine lv_iload hx hb dX3_after_129 (lv_at hl 2 rfl) ?_
        refine lv_istore (lv' := [(7, .int (iI (x % 343))), (6, .int (iI (x / 343 / 7 - 1))), (5, .int (iI (x / 343 % 7))), (4, .int (iI (x % 343))), (3, .int (iI (x / 343))), (0, .ref mm), (1, .int (iI x)), (2, .int (iI 0))]) hx hb dX3_after_131 hl (by decide) rfl (fun ls hl => ?_)
        refine lv_iload hx hb dX3_after_133 (lv_at hl 0 rfl) ?_
        refine zv_sipush hx hb dX3_after_135 (by decide) ?_
        refine zv_icmp_ge hx hb dX3_after_138 (tgt := 158) (by decide) ⟨by omega, by omega⟩ ⟨by omega, by omega⟩ (fun c_12 => ?_) (fun c_12 => ?_)
        · refine zv_iconst hx hb dX3_after_158 ?_
          exact PM_iret hx hb hr hlk dX3_after_159 (by (first | rw [maf_0 hC2 hR2 hx0 hx1] | rw [maf_1 hM hx0 hx1] | rw [maf_2 hC2 hR2 hx0 hx1] | rw [maf_3 hM hx0 hx1]); first | (rw [if_neg (by omega)]; done) | (rw [if_pos (by omega)]; try omega))
        · refine zv_sipush hx hb dX3_after_141 (by decide) ?_
          refine lv_iload hx hb dX3_after_144 (lv_at hl 2 rfl) ?_
          refine lv_iload hx hb dX3_after_146 (lv_at hl 1 rfl) ?_
          refine zc_S (As := [.int (iI (x / 343 % 7)), .int (iI (x / 343 / 7 - 1))]) (rest := [.int (iI 343)]) (ws := [(mm, .inr (3, [.int (iI th), .int (iI C), .int (iI R), .int (iI lim), .int (iI np), .ref ac, .ref ar, .int (iI qb), .int (iI qs), .int (iI wd), .int (iI sm), .ref al, .ref aq, .ref ab])), (ac, .inl (cI, 3, .inl (aI gc))), (ar, .inl (cI, 3, .inl (aI gr)))]) (n := 2) hx hb (hml.trans hl.1.symm) hts hown hK hP (c_X3_squareOf l D cI cJ (x / 343 % 7) (x / 343 / 7 - 1)) (gd_S q_500 q_501 q_6 q_502) (by decide +kernel) rfl ⟨Nat.le_of_ble_eq_true rfl, Nat.le_of_ble_eq_true rfl⟩ ⟨Nat.zero_le _, Nat.zero_le _⟩ [] rfl rfl (Nat.le_of_ble_eq_true rfl) dX3_after_148 (fun r_13 hr_13 => ?_)
          subst hr_13
          refine zv_imul hx hb dX3_after_151 ?_
          refine lv_iload hx hb dX3_after_152 (lv_at hl 0 rfl) ?_
          refine zv_iadd hx hb dX3_after_154 ?_
          refine lv_goto (tgt := 159) hx hb dX3_after_155 (by decide) ?_
          exact PM_iret hx hb hr hlk dX3_after_159 (by (first | rw [maf_0 hC2 hR2 hx0 hx1] | rw [maf_1 hM hx0 hx1] | rw [maf_2 hC2 hR2 hx0 hx1] | rw [maf_3 hM hx0 hx1]); first | (rw [if_neg (by omega)]; done) | (rw [if_pos (by omega)]; try omega))
      · refine zv_iconst hx hb dX3_after_89 ?_
        exact PM_iret hx hb hr hlk dX3_after_90 (by (first | rw [maf_0 hC2 hR2 hx0 hx1] | rw [maf_1 hM hx0 hx1] | rw [maf_2 hC2 hR2 hx0 hx1] | rw [maf_3 hM hx0 hx1]); first | (rw [if_neg (by omega)]; done) | (rw [if_pos (by omega)]; try omega))
  · skip
    refine lv_iload_n hx hb dX3_after_13 rfl (lv_at hl 1 rfl) ?_
    refine zv_bipush hx hb dX3_after_14 (by decide) ?_
    refine zv_irem hx hb dX3_after_16 (by omega) (by omega) (by omega) (by omega) ?_
    refine lv_iload_n hx hb dX3_after_17 rfl (lv_at hl 4 rfl) ?_
    refine zv_iconst hx hb dX3_after_18 ?_
    refine zv_icmp_ne hx hb dX3_after_19 (tgt := 26) (by decide) ⟨by omega, by omega⟩ ⟨by omega, by omega⟩ (fun c_14 => by exfalso; omega) (fun c_14 => ?_)
    refine zv_iconst hx hb dX3_after_22 ?_
    refine lv_goto (tgt := 36) hx hb dX3_after_23 (by decide) ?_
    refine zv_iadd hx hb dX3_after_36 ?_
    refine zv_top (y := x / 343 % 7 + 1) (by omega) ?_
    refine lv_istore (lv' := [(5, .int (iI (x / 343 % 7 + 1))), (4, .int (iI (x % 343))), (3, .int (iI (x / 343))), (0, .ref mm), (1, .int (iI x)), (2, .int (iI 1))]) hx hb dX3_after_37 hl (by decide) rfl (fun ls hl => ?_)
    refine lv_iload_n hx hb dX3_after_39 rfl (lv_at hl 2 rfl) ?_
    refine zv_bipush hx hb dX3_after_40 (by decide) ?_
    refine zv_idiv hx hb dX3_after_42 (by omega) (by omega) (by omega) (by omega) ?_
    refine lv_iload_n hx hb dX3_after_43 rfl (lv_at hl 5 rfl) ?_
    refine zv_iconst hx hb dX3_after_44 ?_
    refine zv_icmp_ne hx hb dX3_after_45 (tgt := 52) (by decide) ⟨by omega, by omega⟩ ⟨by omega, by omega⟩ (fun c_15 => ?_) (fun c_15 => by exfalso; omega)
    refine lv_iload_n hx hb dX3_after_52 rfl (lv_at hl 5 rfl) ?_
    refine zv_if_ne hx hb dX3_after_53 (tgt := 60) (by decide) ⟨by omega, by omega⟩ (fun c_16 => ?_) (fun c_16 => by exfalso; omega)
    refine zv_iconst hx hb dX3_after_60 ?_
    refine zv_iadd hx hb dX3_after_61 ?_
    refine zv_top (y := x / 343 / 7) (by omega) ?_
    refine lv_istore (lv' := [(6, .int (iI (x / 343 / 7))), (5, .int (iI (x / 343 % 7 + 1))), (4, .int (iI (x % 343))), (3, .int (iI (x / 343))), (0, .ref mm), (1, .int (iI x)), (2, .int (iI 1))]) hx hb dX3_after_62 hl (by decide) rfl (fun ls hl => ?_)
    refine lv_aload_n hx hb dX3_after_64 rfl (lv_at hl 4 rfl) ?_
    refine lv_iload hx hb dX3_after_65 (lv_at hl 1 rfl) ?_
    refine lv_iload hx hb dX3_after_67 (lv_at hl 0 rfl) ?_
    refine zc_V (As := [.int (iI (x / 343 % 7 + 1)), .int (iI (x / 343 / 7))]) (rest := []) (ws := [(mm, .inr (3, [.int (iI th), .int (iI C), .int (iI R), .int (iI lim), .int (iI np), .ref ac, .ref ar, .int (iI qb), .int (iI qs), .int (iI wd), .int (iI sm), .ref al, .ref aq, .ref ab])), (ac, .inl (cI, 3, .inl (aI gc))), (ar, .inl (cI, 3, .inl (aI gr)))]) (n := 2) hx hb (hml.trans hl.1.symm) hts hown hK hP (c_X3_isSquare l D cI cJ mm ac ar al aq ab th C R lim np qb qs wd sm gc gr N (x / 343 % 7 + 1) (x / 343 / 7) hM (by omega) (by omega) (by omega) (by omega)) (gd_V q_493 q_495 q_1016 q_6 q_496) (by decide +kernel) rfl ⟨Nat.le_of_ble_eq_true rfl, Nat.le_of_ble_eq_true rfl⟩ ⟨Nat.zero_le _, Nat.zero_le _⟩ [0, 1, 2] rfl 0 (ci := 3) rfl rfl rfl rfl (Nat.le_of_ble_eq_true rfl) dX3_after_69 (fun r_17 hr_17 => ?_)
    refine zv_if_eq hx hb dX3_after_72 (tgt := 89) (by decide) ⟨by omega, by omega⟩ (fun c_18 => ?_) (fun c_18 => ?_)
    · refine zv_iconst hx hb dX3_after_89 ?_
      exact PM_iret hx hb hr hlk dX3_after_90 (by (first | rw [maf_0 hC2 hR2 hx0 hx1] | rw [maf_1 hM hx0 hx1] | rw [maf_2 hC2 hR2 hx0 hx1] | rw [maf_3 hM hx0 hx1]); first | (rw [if_neg (by omega)]; done) | (rw [if_pos (by omega)]; try omega))
    · refine lv_aload_n hx hb dX3_after_75 rfl (lv_at hl 4 rfl) ?_
      refine lv_iload hx hb dX3_after_76 (lv_at hl 1 rfl) ?_
      refine lv_iload hx hb dX3_after_78 (lv_at hl 0 rfl) ?_
      refine zc_S (As := [.int (iI (x / 343 % 7 + 1)), .int (iI (x / 343 / 7))]) (rest := [.ref mm]) (ws := [(mm, .inr (3, [.int (iI th), .int (iI C), .int (iI R), .int (iI lim), .int (iI np), .ref ac, .ref ar, .int (iI qb), .int (iI qs), .int (iI wd), .int (iI sm), .ref al, .ref aq, .ref ab])), (ac, .inl (cI, 3, .inl (aI gc))), (ar, .inl (cI, 3, .inl (aI gr)))]) (n := 2) hx hb (hml.trans hl.1.symm) hts hown hK hP (c_X3_squareOf l D cI cJ (x / 343 % 7 + 1) (x / 343 / 7)) (gd_S q_500 q_501 q_6 q_502) (by decide +kernel) rfl ⟨Nat.le_of_ble_eq_true rfl, Nat.le_of_ble_eq_true rfl⟩ ⟨Nat.zero_le _, Nat.zero_le _⟩ [] rfl rfl (Nat.le_of_ble_eq_true rfl) dX3_after_80 (fun r_19 hr_19 => ?_)
      subst hr_19
      refine zc_V (As := [.int (iI (7 * (x / 343 / 7) + (x / 343 % 7 + 1)))]) (rest := []) (ws := [(mm, .inr (3, [.int (iI th), .int (iI C), .int (iI R), .int (iI lim), .int (iI np), .ref ac, .ref ar, .int (iI qb), .int (iI qs), .int (iI wd), .int (iI sm), .ref al, .ref aq, .ref ab])), (ac, .inl (cI, 3, .inl (aI gc))), (ar, .inl (cI, 3, .inl (aI gr)))]) (n := 1) hx hb (hml.trans hl.1.symm) hts hown hK hP (c_X3_isPillar l D cI cJ mm ac ar al aq ab th C R lim np qb qs wd sm gc gr N (7 * (x / 343 / 7) + (x / 343 % 7 + 1)) hM (by omega) (by omega)) (gd_V q_503 q_505 q_1017 q_6 q_506) (by decide +kernel) rfl ⟨Nat.le_of_ble_eq_true rfl, Nat.le_of_ble_eq_true rfl⟩ ⟨Nat.zero_le _, Nat.zero_le _⟩ [0, 1, 2] rfl 0 (ci := 3) rfl rfl rfl rfl (Nat.le_of_ble_eq_true rfl) dX3_after_83 (fun r_20 hr_20 => ?_)
      have hpq := hr_20.2 (x / 343 % 7 + 1) (x / 343 / 7) (by omega) (by omega) (by omega) (by omega) (by omega)
      refine zv_if_eq hx hb dX3_after_86 (tgt := 91) (by decide) ⟨by omega, by omega⟩ (fun c_21 => ?_) (fun c_21 => ?_)
      · refine lv_iload_n hx hb dX3_after_91 rfl (lv_at hl 6 rfl) ?_
        refine zv_iconst hx hb dX3_after_92 ?_
        refine zv_icmp_ne hx hb dX3_after_93 (tgt := 111) (by decide) ⟨by omega, by omega⟩ ⟨by omega, by omega⟩ (fun c_22 => by exfalso; omega) (fun c_22 => ?_)
        refine lv_aload_n hx hb dX3_after_96 rfl (lv_at hl 4 rfl) ?_
        refine lv_iload hx hb dX3_after_97 (lv_at hl 2 rfl) ?_
        refine lv_iload hx hb dX3_after_99 (lv_at hl 1 rfl) ?_
        refine zv_iconst hx hb dX3_after_101 ?_
        refine zv_isub hx hb dX3_after_102 ?_
        refine zv_top (y := x / 343 % 7) (by omega) ?_
        refine lv_iload hx hb dX3_after_103 (lv_at hl 0 rfl) ?_
        refine zc_V (As := [.int (iI (x % 343)), .int (iI (x / 343 % 7)), .int (iI (x / 343 / 7))]) (rest := []) (ws := [(mm, .inr (3, [.int (iI th), .int (iI C), .int (iI R), .int (iI lim), .int (iI np), .ref ac, .ref ar, .int (iI qb), .int (iI qs), .int (iI wd), .int (iI sm), .ref al, .ref aq, .ref ab])), (ac, .inl (cI, 3, .inl (aI gc))), (ar, .inl (cI, 3, .inl (aI gr)))]) (n := 3) hx hb (hml.trans hl.1.symm) hts hown hK hP (c_X3_goesRight l D cI cJ mm ac ar al aq ab th C R lim np qb qs wd sm gc gr N (x % 343) (x / 343 % 7) (x / 343 / 7) hM (by omega) (by omega) (by omega) (by omega) (by omega) (by omega)) (gd_V q_507 q_509 q_1018 q_6 q_510) (by decide +kernel) rfl ⟨Nat.le_of_ble_eq_true rfl, Nat.le_of_ble_eq_true rfl⟩ ⟨Nat.zero_le _, Nat.zero_le _⟩ [0, 1, 2] rfl 0 (ci := 3) rfl rfl rfl rfl (Nat.le_of_ble_eq_true rfl) dX3_after_105 (fun r_23 hr_23 => ?_)
        subst hr_23
        refine lv_goto (tgt := 131) hx hb dX3_after_108 (by decide) ?_
        refine lv_istore (lv' := [(7, .int (iI (wRZ N R (x / 343 % 7) (x / 343 / 7) (x % 343)))), (6, .int (iI (x / 343 / 7))), (5, .int (iI (x / 343 % 7 + 1))), (4, .int (iI (x % 343))), (3, .int (iI (x / 343))), (0, .ref mm), (1, .int (iI x)), (2, .int (iI 1))]) hx hb dX3_after_131 hl (by decide) rfl (fun ls hl => ?_)
        refine lv_iload hx hb dX3_after_133 (lv_at hl 0 rfl) ?_
        refine zv_sipush hx hb dX3_after_135 (by decide) ?_
        refine zv_icmp_ge hx hb dX3_after_138 (tgt := 158) (by decide) ⟨by omega, by omega⟩ ⟨by omega, by omega⟩ (fun c_24 => ?_) (fun c_24 => ?_)
        · refine zv_iconst hx hb dX3_after_158 ?_
          exact PM_iret hx hb hr hlk dX3_after_159 (by (first | rw [maf_0 hC2 hR2 hx0 hx1] | rw [maf_1 hM hx0 hx1] | rw [maf_2 hC2 hR2 hx0 hx1] | rw [maf_3 hM hx0 hx1]); first | (rw [if_neg (by omega)]; done) | (rw [if_pos (by omega)]; try omega))
        · refine zv_sipush hx hb dX3_after_141 (by decide) ?_
          refine lv_iload hx hb dX3_after_144 (lv_at hl 2 rfl) ?_
          refine lv_iload hx hb dX3_after_146 (lv_at hl 1 rfl) ?_
          refine zc_S (As := [.int (iI (x / 343 % 7 + 1)), .int (iI (x / 343 / 7))]) (rest := [.int (iI 343)]) (ws := [(mm, .inr (3, [.int (iI th), .int (iI C), .int (iI R), .int (iI lim), .int (iI np), .ref ac, .ref ar, .int (iI qb), .int (iI qs), .int (iI wd), .int (iI sm), .ref al, .ref aq, .ref ab])), (ac, .inl (cI, 3, .inl (aI gc))), (ar, .inl (cI, 3, .inl (aI gr)))]) (n := 2) hx hb (hml.trans hl.1.symm) hts hown hK hP (c_X3_squareOf l D cI cJ (x / 343 % 7 + 1) (x / 343 / 7)) (gd_S q_500 q_501 q_6 q_502) (by decide +kernel) rfl ⟨Nat.le_of_ble_eq_true rfl, Nat.le_of_ble_eq_true rfl⟩ ⟨Nat.zero_le _, Nat.zero_le _⟩ [] rfl rfl (Nat.le_of_ble_eq_true rfl) dX3_after_148 (fun r_25 hr_25 => ?_)
          subst hr_25
          refine zv_imul hx hb dX3_after_151 ?_
          refine lv_iload hx hb dX3_after_152 (lv_at hl 0 rfl) ?_
          refine zv_iadd hx hb dX3_after_154 ?_
          refine lv_goto (tgt := 159) hx hb dX3_after_155 (by decide) ?_
          exact PM_iret hx hb hr hlk dX3_after_159 (by (first | rw [maf_0 hC2 hR2 hx0 hx1] | rw [maf_1 hM hx0 hx1] | rw [maf_2 hC2 hR2 hx0 hx1] | rw [maf_3 hM hx0 hx1]); first | (rw [if_neg (by omega)]; done) | (rw [if_pos (by omega)]; try omega))
      · refine zv_iconst hx hb dX3_after_89 ?_
        exact PM_iret hx hb hr hlk dX3_after_90 (by (first | rw [maf_0 hC2 hR2 hx0 hx1] | rw [maf_1 hM hx0 hx1] | rw [maf_2 hC2 hR2 hx0 hx1] | rw [maf_3 hM hx0 hx1]); first | (rw [if_neg (by omega)]; done) | (rw [if_pos (by omega)]; try omega))
  · skip
    refine lv_iload_n hx hb dX3_after_13 rfl (lv_at hl 1 rfl) ?_
    refine zv_bipush hx hb dX3_after_14 (by decide) ?_
    refine zv_irem hx hb dX3_after_16 (by omega) (by omega) (by omega) (by omega) ?_
    refine lv_iload_n hx hb dX3_after_17 rfl (lv_at hl 4 rfl) ?_
    refine zv_iconst hx hb dX3_after_18 ?_
    refine zv_icmp_ne hx hb dX3_after_19 (tgt := 26) (by decide) ⟨by omega, by omega⟩ ⟨by omega, by omega⟩ (fun c_26 => ?_) (fun c_26 => by exfalso; omega)
    refine lv_iload_n hx hb dX3_after_26 rfl (lv_at hl 4 rfl) ?_
    refine zv_iconst hx hb dX3_after_27 ?_
    refine zv_icmp_ne hx hb dX3_after_28 (tgt := 35) (by decide) ⟨by omega, by omega⟩ ⟨by omega, by omega⟩ (fun c_27 => ?_) (fun c_27 => by exfalso; omega)
    refine zv_iconst hx hb dX3_after_35 ?_
    refine zv_iadd hx hb dX3_after_36 ?_
    refine zv_top (y := x / 343 % 7) (by omega) ?_
    refine lv_istore (lv' := [(5, .int (iI (x / 343 % 7))), (4, .int (iI (x % 343))), (3, .int (iI (x / 343))), (0, .ref mm), (1, .int (iI x)), (2, .int (iI 2))]) hx hb dX3_after_37 hl (by decide) rfl (fun ls hl => ?_)
    refine lv_iload_n hx hb dX3_after_39 rfl (lv_at hl 2 rfl) ?_
    refine zv_bipush hx hb dX3_after_40 (by decide) ?_
    refine zv_idiv hx hb dX3_after_42 (by omega) (by omega) (by omega) (by omega) ?_
    refine lv_iload_n hx hb dX3_after_43 rfl (lv_at hl 5 rfl) ?_
    refine zv_iconst hx hb dX3_after_44 ?_
    refine zv_icmp_ne hx hb dX3_after_45 (tgt := 52) (by decide) ⟨by omega, by omega⟩ ⟨by omega, by omega⟩ (fun c_28 => by exfalso; omega) (fun c_28 => ?_)
    refine zv_iconst hx hb dX3_after_48 ?_
    refine lv_goto (tgt := 61) hx hb dX3_after_49 (by decide) ?_
    refine zv_iadd hx hb dX3_after_61 ?_
    refine zv_top (y := x / 343 / 7 + 1) (by omega) ?_
    refine lv_istore (lv' := [(6, .int (iI (x / 343 / 7 + 1))), (5, .int (iI (x / 343 % 7))), (4, .int (iI (x % 343))), (3, .int (iI (x / 343))), (0, .ref mm), (1, .int (iI x)), (2, .int (iI 2))]) hx hb dX3_after_62 hl (by decide) rfl (fun ls hl => ?_)
    refine lv_aload_n hx hb dX3_after_64 rfl (lv_at hl 4 rfl) ?_
    refine lv_iload hx hb dX3_after_65 (lv_at hl 1 rfl) ?_
    refine lv_iload hx hb dX3_after_67 (lv_at hl 0 rfl) ?_
    refine zc_V (As := [.int (iI (x / 343 % 7)), .int (iI (x / 343 / 7 + 1))]) (rest := []) (ws := [(mm, .inr (3, [.int (iI th), .int (iI C), .int (iI R), .int (iI lim), .int (iI np), .ref ac, .ref ar, .int (iI qb), .int (iI qs), .int (iI wd), .int (iI sm), .ref al, .ref aq, .ref ab])), (ac, .inl (cI, 3, .inl (aI gc))), (ar, .inl (cI, 3, .inl (aI gr)))]) (n := 2) hx hb (hml.trans hl.1.symm) hts hown hK hP (c_X3_isSquare l D cI cJ mm ac ar al aq ab th C R lim np qb qs wd sm gc gr N (x / 343 % 7) (x / 343 / 7 + 1) hM (by omega) (by omega) (by omega) (by omega)) (gd_V q_493 q_495 q_1016 q_6 q_496) (by decide +kernel) rfl ⟨Nat.le_of_ble_eq_true rfl, Nat.le_of_ble_eq_true rfl⟩ ⟨Nat.zero_le _, Nat.zero_le _⟩ [0, 1, 2] rfl 0 (ci := 3) rfl rfl rfl rfl (Nat.le_of_ble_eq_true rfl) dX3_after_69 (fun r_29 hr_29 => ?_)
    refine zv_if_eq hx hb dX3_after_72 (tgt := 89) (by decide) ⟨by omega, by omega⟩ (fun c_30 => ?_) (fun c_30 => ?_)
    · refine zv_iconst hx hb dX3_after_89 ?_
      exact PM_iret hx hb hr hlk dX3_after_90 (by (first | rw [maf_0 hC2 hR2 hx0 hx1] | rw [maf_1 hM hx0 hx1] | rw [maf_2 hC2 hR2 hx0 hx1] | rw [maf_3 hM hx0 hx1]); first | (rw [if_neg (by omega)]; done) | (rw [if_pos (by omega)]; try omega))
    · refine lv_aload_n hx hb dX3_after_75 rfl (lv_at hl 4 rfl) ?_
      refine lv_iload hx hb dX3_after_76 (lv_at hl 1 rfl) ?_
      refine lv_iload hx hb dX3_after_78 (lv_at hl 0 rfl) ?_
      refine zc_S (As := [.int (iI (x / 343 % 7)), .int (iI (x / 343 / 7 + 1))]) (rest := [.ref mm]) (ws := [(mm, .inr (3, [.int (iI th), .int (iI C), .int (iI R), .int (iI lim), .int (iI np), .ref ac, .ref ar, .int (iI qb), .int (iI qs), .int (iI wd), .int (iI sm), .ref al, .ref aq, .ref ab])), (ac, .inl (cI, 3, .inl (aI gc))), (ar, .inl (cI, 3, .inl (aI gr)))]) (n := 2) hx hb (hml.trans hl.1.symm) hts hown hK hP (c_X3_squareOf l D cI cJ (x / 343 % 7) (x / 343 / 7 + 1)) (gd_S q_500 q_501 q_6 q_502) (by decide +kernel) rfl ⟨Nat.le_of_ble_eq_true rfl, Nat.le_of_ble_eq_true rfl⟩ ⟨Nat.zero_le _, Nat.zero_le _⟩ [] rfl rfl (Nat.le_of_ble_eq_true rfl) dX3_after_80 (fun r_31 hr_31 => ?_)
      subst hr_31
      refine zc_V (As := [.int (iI (7 * (x / 343 / 7 + 1) + (x / 343 % 7)))]) (rest := []) (ws := [(mm, .inr (3, [.int (iI th), .int (iI C), .int (iI R), .int (iI lim), .int (iI np), .ref ac, .ref ar, .int (iI qb), .int (iI qs), .int (iI wd), .int (iI sm), .ref al, .ref aq, .ref ab])), (ac, .inl (cI, 3, .inl (aI gc))), (ar, .inl (cI, 3, .inl (aI gr)))]) (n := 1) hx hb (hml.trans hl.1.symm) hts hown hK hP (c_X3_isPillar l D cI cJ mm ac ar al aq ab th C R lim np qb qs wd sm gc gr N (7 * (x / 343 / 7 + 1) + (x / 343 % 7)) hM (by omega) (by omega)) (gd_V q_503 q_505 q_1017 q_6 q_506) (by decide +kernel) rfl ⟨Nat.le_of_ble_eq_true rfl, Nat.le_of_ble_eq_true rfl⟩ ⟨Nat.zero_le _, Nat.zero_le _⟩ [0, 1, 2] rfl 0 (ci := 3) rfl rfl rfl rfl (Nat.le_of_ble_eq_true rfl) dX3_after_83 (fun r_32 hr_32 => ?_)
      have hpq := hr_32.2 (x / 343 % 7) (x / 343 / 7 + 1) (by omega) (by omega) (by omega) (by omega) (by omega)
      refine zv_if_eq hx hb dX3_after_86 (tgt := 91) (by decide) ⟨by omega, by omega⟩ (fun c_33 => ?_) (fun c_33 => ?_)
      · refine lv_iload_n hx hb dX3_after_91 rfl (lv_at hl 6 rfl) ?_
        refine zv_iconst hx hb dX3_after_92 ?_
        refine zv_icmp_ne hx hb dX3_after_93 (tgt := 111) (by decide) ⟨by omega, by omega⟩ ⟨by omega, by omega⟩ (fun c_34 => ?_) (fun c_34 => by exfalso; omega)
        refine lv_iload_n hx hb dX3_after_111 rfl (lv_at hl 6 rfl) ?_
        refine zv_iconst hx hb dX3_after_112 ?_
        refine zv_icmp_ne hx hb dX3_after_113 (tgt := 129) (by decide) ⟨by omega, by omega⟩ ⟨by omega, by omega⟩ (fun c_35 => ?_) (fun c_35 => by exfalso; omega)
        refine lv_iload hx hb dX3_after_129 (lv_at hl 2 rfl) ?_
        refine lv_istore (lv' := [(7, .int (iI (x % 343))), (6, .int (iI (x / 343 / 7 + 1))), (5, .int (iI (x / 343 % 7))), (4, .int (iI (x % 343))), (3, .int (iI (x / 343))), (0, .ref mm), (1, .int (iI x)), (2, .int (iI 2))]) hx hb dX3_after_131 hl (by decide) rfl (fun ls hl => ?_)
        refine lv_iload hx hb dX3_after_133 (lv_at hl 0 rfl) ?_
        refine zv_sipush hx hb dX3_after_135 (by decide) ?_
        refine zv_icmp_ge hx hb dX3_after_138 (tgt := 158) (by decide) ⟨by omega, by omega⟩ ⟨by omega, by omega⟩ (fun c_36 => ?_) (fun c_36 => ?_)
        · refine zv_iconst hx hb dX3_after_158 ?_
          exact PM_iret hx hb hr hlk dX3_after_159 (by (first | rw [maf_0 hC2 hR2 hx0 hx1] | rw [maf_1 hM hx0 hx1] | rw [maf_2 hC2 hR2 hx0 hx1] | rw [maf_3 hM hx0 hx1]); first | (rw [if_neg (by omega)]; done) | (rw [if_pos (by omega)]; try omega))
        · refine zv_sipush hx hb dX3_after_141 (by decide) ?_
          refine lv_iload hx hb dX3_after_144 (lv_at hl 2 rfl) ?_
          refine lv_iload hx hb dX3_after_146 (lv_at hl 1 rfl) ?_
          refine zc_S (As := [.int (iI (x / 343 % 7)), .int (iI (x / 343 / 7 + 1))]) (rest := [.int (iI 343)]) (ws := [(mm, .inr (3, [.int (iI th), .int (iI C), .int (iI R), .int (iI lim), .int (iI np), .ref ac, .ref ar, .int (iI qb), .int (iI qs), .int (iI wd), .int (iI sm), .ref al, .ref aq, .ref ab])), (ac, .inl (cI, 3, .inl (aI gc))), (ar, .inl (cI, 3, .inl (aI gr)))]) (n := 2) hx hb (hml.trans hl.1.symm) hts hown hK hP (c_X3_squareOf l D cI cJ (x / 343 % 7) (x / 343 / 7 + 1)) (gd_S q_500 q_501 q_6 q_502) (by decide +kernel) rfl ⟨Nat.le_of_ble_eq_true rfl, Nat.le_of_ble_eq_true rfl⟩ ⟨Nat.zero_le _, Nat.zero_le _⟩ [] rfl rfl (Nat.le_of_ble_eq_true rfl) dX3_after_148 (fun r_37 hr_37 => ?_)
          subst hr_37
          refine zv_imul hx hb dX3_after_151 ?_
          refine lv_iload hx hb dX3_after_152 (lv_at hl 0 rfl) ?_
          refine zv_iadd hx hb dX3_after_154 ?_
          refine lv_goto (tgt := 159) hx hb dX3_after_155 (by decide) ?_
          exact PM_iret hx hb hr hlk dX3_after_159 (by (first | rw [maf_0 hC2 hR2 hx0 hx1] | rw [maf_1 hM hx0 hx1] | rw [maf_2 hC2 hR2 hx0 hx1] | rw [maf_3 hM hx0 hx1]); first | (rw [if_neg (by omega)]; done) | (rw [if_pos (by omega)]; try omega))
      · refine zv_iconst hx hb dX3_after_89 ?_
        exact PM_iret hx hb hr hlk dX3_after_90 (by (first | rw [maf_0 hC2 hR2 hx0 hx1] | rw [maf_1 hM hx0 hx1] | rw [maf_2 hC2 hR2 hx0 hx1] | rw [maf_3 hM hx0 hx1]); first | (rw [if_neg (by omega)]; done) | (rw [if_pos (by omega)]; try omega))
  · skip
    refine lv_iload_n hx hb dX3_after_13 rfl (lv_at hl 1 rfl) ?_
    refine zv_bipush hx hb dX3_after_14 (by decide) ?_
    refine zv_irem hx hb dX3_after_16 (by omega) (by omega) (by omega) (by omega) ?_
    refine lv_iload_n hx hb dX3_after_17 rfl (lv_at hl 4 rfl) ?_
    refine zv_iconst hx hb dX3_after_18 ?_
    refine zv_icmp_ne hx hb dX3_after_19 (tgt := 26) (by decide) ⟨by omega, by omega⟩ ⟨by omega, by omega⟩ (fun c_38 => ?_) (fun c_38 => by exfalso; omega)
    refine lv_iload_n hx hb dX3_after_26 rfl (lv_at hl 4 rfl) ?_
    refine zv_iconst hx hb dX3_after_27 ?_
    refine zv_icmp_ne hx hb dX3_after_28 (tgt := 35) (by decide) ⟨by omega, by omega⟩ ⟨by omega, by omega⟩ (fun c_39 => by exfalso; omega) (fun c_39 => ?_)
    refine zv_iconst hx hb dX3_after_31 ?_
    refine lv_goto (tgt := 36) hx hb dX3_after_32 (by decide) ?_
    refine zv_iadd hx hb dX3_after_36 ?_
    refine zv_top (y := x / 343 % 7 - 1) (by omega) ?_
    refine lv_istore (lv' := [(5, .int (iI (x / 343 % 7 - 1))), (4, .int (iI (x % 343))), (3, .int (iI (x / 343))), (0, .ref mm), (1, .int (iI x)), (2, .int (iI 3))]) hx hb dX3_after_37 hl (by decide) rfl (fun ls hl => ?_)
    refine lv_iload_n hx hb dX3_after_39 rfl (lv_at hl 2 rfl) ?_
    refine zv_bipush hx hb dX3_after_40 (by decide) ?_
    refine zv_idiv hx hb dX3_after_42 (by omega) (by omega) (by omega) (by omega) ?_
    refine lv_iload_n hx hb dX3_after_43 rfl (lv_at hl 5 rfl) ?_
    refine zv_iconst hx hb dX3_after_44 ?_
    refine zv_icmp_ne hx hb dX3_after_45 (tgt := 52) (by decide) ⟨by omega, by omega⟩ ⟨by omega, by omega⟩ (fun c_40 => ?_) (fun c_40 => by exfalso; omega)
    refine lv_iload_n hx hb dX3_after_52 rfl (lv_at hl 5 rfl) ?_
    refine zv_if_ne hx hb dX3_after_53 (tgt := 60) (by decide) ⟨by omega, by omega⟩ (fun c_41 => ?_) (fun c_41 => by exfalso; omega)
    refine zv_iconst hx hb dX3_after_60 ?_
    refine zv_iadd hx hb dX3_after_61 ?_
    refine zv_top (y := x / 343 / 7) (by omega) ?_
    refine lv_istore (lv' := [(6, .int (iI (x / 343 / 7))), (5, .int (iI (x / 343 % 7 - 1))), (4, .int (iI (x % 343))), (3, .int (iI (x / 343))), (0, .ref mm), (1, .int (iI x)), (2, .int (iI 3))]) hx hb dX3_after_62 hl (by decide) rfl (fun ls hl => ?_)
    refine lv_aload_n hx hb dX3_after_64 rfl (lv_at hl 4 rfl) ?_
    refine lv_iload hx hb dX3_after_65 (lv_at hl 1 rfl) ?_
    refine lv_iload hx hb dX3_after_67 (lv_at hl 0 rfl) ?_
    refine zc_V (As := [.int (iI (x / 343 % 7 - 1)), .int (iI (x / 343 / 7))]) (rest := []) (ws := [(mm, .inr (3, [.int (iI th), .int (iI C), .int (iI R), .int (iI lim), .int (iI np), .ref ac, .ref ar, .int (iI qb), .int (iI qs), .int (iI wd), .int (iI sm), .ref al, .ref aq, .ref ab])), (ac, .inl (cI, 3, .inl (aI gc))), (ar, .inl (cI, 3, .inl (aI gr)))]) (n := 2) hx hb (hml.trans hl.1.symm) hts hown hK hP (c_X3_isSquare l D cI cJ mm ac ar al aq ab th C R lim np qb qs wd sm gc gr N (x / 343 % 7 - 1) (x / 343 / 7) hM (by omega) (by omega) (by omega) (by omega)) (gd_V q_493 q_495 q_1016 q_6 q_496) (by decide +kernel) rfl ⟨Nat.le_of_ble_eq_true rfl, Nat.le_of_ble_eq_true rfl⟩ ⟨Nat.zero_le _, Nat.zero_le _⟩ [0, 1, 2] rfl 0 (ci := 3) rfl rfl rfl rfl (Nat.le_of_ble_eq_true rfl) dX3_after_69 (fun r_42 hr_42 => ?_)
    refine zv_if_eq hx hb dX3_after_72 (tgt := 89) (by decide) ⟨by omega, by omega⟩ (fun c_43 => ?_) (fun c_43 => ?_)
    · refine zv_iconst hx hb dX3_after_89 ?_
      exact PM_iret hx hb hr hlk dX3_after_90 (by (first | rw [maf_0 hC2 hR2 hx0 hx1] | rw [maf_1 hM hx0 hx1] | rw [maf_2 hC2 hR2 hx0 hx1] | rw [maf_3 hM hx0 hx1]); first | (rw [if_neg (by omega)]; done) | (rw [if_pos (by omega)]; try omega))
    · refine lv_aload_n hx hb dX3_after_75 rfl (lv_at hl 4 rfl) ?_
      refine lv_iload hx hb dX3_after_76 (lv_at hl 1 rfl) ?_
      refine lv_iload hx hb dX3_after_78 (lv_at hl 0 rfl) ?_
      refine zc_S (As := [.int (iI (x / 343 % 7 - 1)), .int (iI (x / 343 / 7))]) (rest := [.ref mm]) (ws := [(mm, .inr (3, [.int (iI th), .int (iI C), .int (iI R), .int (iI lim), .int (iI np), .ref ac, .ref ar, .int (iI qb), .int (iI qs), .int (iI wd), .int (iI sm), .ref al, .ref aq, .ref ab])), (ac, .inl (cI, 3, .inl (aI gc))), (ar, .inl (cI, 3, .inl (aI gr)))]) (n := 2) hx hb (hml.trans hl.1.symm) hts hown hK hP (c_X3_squareOf l D cI cJ (x / 343 % 7 - 1) (x / 343 / 7)) (gd_S q_500 q_501 q_6 q_502) (by decide +kernel) rfl ⟨Nat.le_of_ble_eq_true rfl, Nat.le_of_ble_eq_true rfl⟩ ⟨Nat.zero_le _, Nat.zero_le _⟩ [] rfl rfl (Nat.le_of_ble_eq_true rfl) dX3_after_80 (fun r_44 hr_44 => ?_)
      subst hr_44
      refine zc_V (As := [.int (iI (7 * (x / 343 / 7) + (x / 343 % 7 - 1)))]) (rest := []) (ws := [(mm, .inr (3, [.int (iI th), .int (iI C), .int (iI R), .int (iI lim), .int (iI np), .ref ac, .ref ar, .int (iI qb), .int (iI qs), .int (iI wd), .int (iI sm), .ref al, .ref aq, .ref ab])), (ac, .inl (cI, 3, .inl (aI gc))), (ar, .inl (cI, 3, .inl (aI gr)))]) (n := 1) hx hb (hml.trans hl.1.symm) hts hown hK hP (c_X3_isPillar l D cI cJ mm ac ar al aq ab th C R lim np qb qs wd sm gc gr N (7 * (x / 343 / 7) + (x / 343 % 7 - 1)) hM (by omega) (by omega)) (gd_V q_503 q_505 q_1017 q_6 q_506) (by decide +kernel) rfl ⟨Nat.le_of_ble_eq_true rfl, Nat.le_of_ble_eq_true rfl⟩ ⟨Nat.zero_le _, Nat.zero_le _⟩ [0, 1, 2] rfl 0 (ci := 3) rfl rfl rfl rfl (Nat.le_of_ble_eq_true rfl) dX3_after_83 (fun r_45 hr_45 => ?_)
      have hpq := hr_45.2 (x / 343 % 7 - 1) (x / 343 / 7) (by omega) (by omega) (by omega) (by omega) (by omega)
      refine zv_if_eq hx hb dX3_after_86 (tgt := 91) (by decide) ⟨by omega, by omega⟩ (fun c_46 => ?_) (fun c_46 => ?_)
      · refine lv_iload_n hx hb dX3_after_91 rfl (lv_at hl 6 rfl) ?_
        refine zv_iconst hx hb dX3_after_92 ?_
        refine zv_icmp_ne hx hb dX3_after_93 (tgt := 111) (by decide) ⟨by omega, by omega⟩ ⟨by omega, by omega⟩ (fun c_47 => ?_) (fun c_47 => by exfalso; omega)
        refine lv_iload_n hx hb dX3_after_111 rfl (lv_at hl 6 rfl) ?_
        refine zv_iconst hx hb dX3_after_112 ?_
        refine zv_icmp_ne hx hb dX3_after_113 (tgt := 129) (by decide) ⟨by omega, by omega⟩ ⟨by omega, by omega⟩ (fun c_48 => by exfalso; omega) (fun c_48 => ?_)
        refine lv_aload_n hx hb dX3_after_116 rfl (lv_at hl 4 rfl) ?_
        refine lv_iload hx hb dX3_after_117 (lv_at hl 2 rfl) ?_
        refine lv_iload hx hb dX3_after_119 (lv_at hl 1 rfl) ?_
        refine lv_iload hx hb dX3_after_121 (lv_at hl 0 rfl) ?_
        refine zc_V (As := [.int (iI (x % 343)), .int (iI (x / 343 % 7 - 1)), .int (iI (x / 343 / 7))]) (rest := []) (ws := [(mm, .inr (3, [.int (iI th), .int (iI C), .int (iI R), .int (iI lim), .int (iI np), .ref ac, .ref ar, .int (iI qb), .int (iI qs), .int (iI wd), .int (iI sm), .ref al, .ref aq, .ref ab])), (ac, .inl (cI, 3, .inl (aI gc))), (ar, .inl (cI, 3, .inl (aI gr)))]) (n := 3) hx hb (hml.trans hl.1.symm) hts hown hK hP (c_X3_goesLeft l D cI cJ mm ac ar al aq ab th C R lim np qb qs wd sm gc gr N (x % 343) (x / 343 % 7 - 1) (x / 343 / 7) hM (by omega) (by omega) (by omega) (by omega) (by omega) (by omega)) (gd_V q_518 q_520 q_1020 q_6 q_521) (by decide +kernel) rfl ⟨Nat.le_of_ble_eq_true rfl, Nat.le_of_ble_eq_true rfl⟩ ⟨Nat.zero_le _, Nat.zero_le _⟩ [0, 1, 2] rfl 0 (ci := 3) rfl rfl rfl rfl (Nat.le_of_ble_eq_true rfl) dX3_after_123 (fun r_49 hr_49 => ?_)
        subst hr_49
        refine lv_goto (tgt := 131) hx hb dX3_after_126 (by decide) ?_
        refine lv_istore (lv' := [(7, .int (iI (wLZ N R (x / 343 % 7 - 1) (x / 343 / 7) (x % 343)))), (6, .int (iI (x / 343 / 7))), (5, .int (iI (x / 343 % 7 - 1))), (4, .int (iI (x % 343))), (3, .int (iI (x / 343))), (0, .ref mm), (1, .int (iI x)), (2, .int (iI 3))]) hx hb dX3_after_131 hl (by decide) rfl (fun ls hl => ?_)
        refine lv_iload hx hb dX3_after_133 (lv_at hl 0 rfl) ?_
        refine zv_sipush hx hb dX3_after_135 (by decide) ?_
        refine zv_icmp_ge hx hb dX3_after_138 (tgt := 158) (by decide) ⟨by omega, by omega⟩ ⟨by omega, by omega⟩ (fun c_50 => ?_) (fun c_50 => ?_)
        · refine zv_iconst hx hb dX3_after_158 ?_
          exact PM_iret hx hb hr hlk dX3_after_159 (by (first | rw [maf_0 hC2 hR2 hx0 hx1] | rw [maf_1 hM hx0 hx1] | rw [maf_2 hC2 hR2 hx0 hx1] | rw [maf_3 hM hx0 hx1]); first | (rw [if_neg (by omega)]; done) | (rw [if_pos (by omega)]; try omega))
        · refine zv_sipush hx hb dX3_after_141 (by decide) ?_
          refine lv_iload hx hb dX3_after_144 (lv_at hl 2 rfl) ?_
          refine lv_iload hx hb dX3_after_146 (lv_at hl 1 rfl) ?_
          refine zc_S (As := [.int (iI (x / 343 % 7 - 1)), .int (iI (x / 343 / 7))]) (rest := [.int (iI 343)]) (ws := [(mm, .inr (3, [.int (iI th), .int (iI C), .int (iI R), .int (iI lim), .int (iI np), .ref ac, .ref ar, .int (iI qb), .int (iI qs), .int (iI wd), .int (iI sm), .ref al, .ref aq, .ref ab])), (ac, .inl (cI, 3, .inl (aI gc))), (ar, .inl (cI, 3, .inl (aI gr)))]) (n := 2) hx hb (hml.trans hl.1.symm) hts hown hK hP (c_X3_squareOf l D cI cJ (x / 343 % 7 - 1) (x / 343 / 7)) (gd_S q_500 q_501 q_6 q_502) (by decide +kernel) rfl ⟨Nat.le_of_ble_eq_true rfl, Nat.le_of_ble_eq_true rfl⟩ ⟨Nat.zero_le _, Nat.zero_le _⟩ [] rfl rfl (Nat.le_of_ble_eq_true rfl) dX3_after_148 (fun r_51 hr_51 => ?_)
          subst hr_51
          refine zv_imul hx hb dX3_after_151 ?_
          refine lv_iload hx hb dX3_after_152 (lv_at hl 0 rfl) ?_
          refine zv_iadd hx hb dX3_after_154 ?_
          refine lv_goto (tgt := 159) hx hb dX3_after_155 (by decide) ?_
          exact PM_iret hx hb hr hlk dX3_after_159 (by (first | rw [maf_0 hC2 hR2 hx0 hx1] | rw [maf_1 hM hx0 hx1] | rw [maf_2 hC2 hR2 hx0 hx1] | rw [maf_3 hM hx0 hx1]); first | (rw [if_neg (by omega)]; done) | (rw [if_pos (by omega)]; try omega))
      · refine zv_iconst hx hb dX3_after_89 ?_
        exact PM_iret hx hb hr hlk dX3_after_90 (by (first | rw [maf_0 hC2 hR2 hx0 hx1] | rw [maf_1 hM hx0 hx1] | rw [maf_2 hC2 hR2 hx0 hx1] | rw [maf_3 hM hx0 hx1]); first | (rw [if_neg (by omega)]; done) | (rw [if_pos (by omega)]; try omega))
set_option maxRecDepth 100000 in
set_option maxHeartbeats 4000000 in
theorem c_X3_isAble (l : Launch) (D : va_G) (cI cJ : ClassId) (mm ac ar al aq ab : Nat) (th C R lim np qb qs wd sm : Int) (gc gr gl : Nat → Int) (N L : Int → Int) (x : Int) (hM : MdOK C R np N gc gr) (hL : MLen L gl) (hlm : 1 ≤ lim ∧ lim ≤ 60) (hx : -1 ≤ x) (hx1 : x < 16807) : PM l yX3_isAble (.code yX3_isAble cX3_isAble 2 (some .boolean)) 0 [.ref mm, .int (iI x)] D cI cJ [(mm, .inr (3, [.int (iI th), .int (iI C), .int (iI R), .int (iI lim), .int (iI np), .ref ac, .ref ar, .int (iI qb), .int (iI qs), .int (iI wd), .int (iI sm), .ref al, .ref aq, .ref ab])), (ac, .inl (cI, 3, .inl (aI gc))), (ar, .inl (cI, 3, .inl (aI gr))), (al, .inl (cI, 16807, .inl (aI gl)))] (fun r => (r = 1 ∧ (x ≠ -1 ∧ L (tauZ x) ≠ -1 ∧ L (tauZ x) ≤ lim)) ∨ (r = 0 ∧ ¬ (x ≠ -1 ∧ L (tauZ x) ≠ -1 ∧ L (tauZ x) ≤ lim))) := by
  obtain ⟨hC1, hC2, hR1, hR2, hp1, hp2, -, -⟩ := id hM
  have hLb := hL.b (tauZ x)
  refine PM_of (by decide) rfl (Nat.le_of_ble_eq_true rfl) (fun p e s m below meth c ls hx hb hr hts hown hlk hml hK hP hl => ?_)
  have hl : lv_has ls 2 [(0, .ref mm), (1, .int (iI x))] := hl
  refine lv_iload_n hx hb dX3_isAble_0 rfl (lv_at hl 1 rfl) ?_
  refine zv_iconst hx hb dX3_isAble_1 ?_
  refine zv_icmp_eq hx hb dX3_isAble_2 (tgt := 32) (by decide) ⟨by omega, by omega⟩ ⟨by omega, by omega⟩ (fun c_1 => ?_) (fun c_1 => ?_)
  · refine zv_iconst hx hb dX3_isAble_32 ?_
    exact PM_zret hx hb hr hlk dX3_isAble_33 (by first | rfl | decide) (by omega)
  · refine lv_aload_n hx hb dX3_isAble_5 rfl (lv_at hl 0 rfl) ?_
    refine va_get (D := D) (ci := 3) (v := .ref al) (C := RX3) (T := TX3) (N := 14) hx hb hts uX3 hown hK.1 hP 0 rfl rfl 11 (by decide) (hts _ q_537) (fun _ h9 => h9) rfl dX3_isAble_6 ?_
    refine lv_iload_n hx hb dX3_isAble_9 rfl (lv_at hl 1 rfl) ?_
    refine zv_iald hx hb hK.1 hP 3 0 rfl rfl (by omega) (by omega) (by omega) dX3_isAble_10 ?_
    refine zv_top (y := L (tauZ x)) (hL.at (by omega) (by omega)) ?_
    refine zv_iconst hx hb dX3_isAble_11 ?_
    refine zv_icmp_eq hx hb dX3_isAble_12 (tgt := 32) (by decide) ⟨by omega, by omega⟩ ⟨by omega, by omega⟩ (fun c_2 => ?_) (fun c_2 => ?_)
    · refine zv_iconst hx hb dX3_isAble_32 ?_
      exact PM_zret hx hb hr hlk dX3_isAble_33 (by first | rfl | decide) (by omega)
    · refine lv_aload_n hx hb dX3_isAble_15 rfl (lv_at hl 0 rfl) ?_
      refine va_get (D := D) (ci := 3) (v := .ref al) (C := RX3) (T := TX3) (N := 14) hx hb hts uX3 hown hK.1 hP 0 rfl rfl 11 (by decide) (hts _ q_537) (fun _ h9 => h9) rfl dX3_isAble_16 ?_
      refine lv_iload_n hx hb dX3_isAble_19 rfl (lv_at hl 1 rfl) ?_
      refine zv_iald hx hb hK.1 hP 3 0 rfl rfl (by omega) (by omega) (by omega) dX3_isAble_20 ?_
      refine zv_top (y := L (tauZ x)) (hL.at (by omega) (by omega)) ?_
      refine lv_aload_n hx hb dX3_isAble_21 rfl (lv_at hl 0 rfl) ?_
      refine va_get (D := D) (ci := 3) (v := .int (iI lim)) (C := RX3) (T := TX3) (N := 14) hx hb hts uX3 hown hK.1 hP 0 rfl rfl 3 (by decide) (hts _ q_529) (fun _ h9 => h9) rfl dX3_isAble_22 ?_
      refine zv_icmp_gt hx hb dX3_isAble_25 (tgt := 32) (by decide) ⟨by omega, by omega⟩ ⟨by omega, by omega⟩ (fun c_3 => ?_) (fun c_3 => ?_)
      · refine zv_iconst hx hb dX3_isAble_32 ?_
        exact PM_zret hx hb hr hlk dX3_isAble_33 (by first | rfl | decide) (by omega)
      · refine zv_iconst hx hb dX3_isAble_28 ?_
        refine lv_goto (tgt := 33) hx hb dX3_isAble_29 (by decide) ?_
        exact PM_zret hx hb hr hlk dX3_isAble_33 (by first | rfl | decide) (by omega)
set_option maxRecDepth 100000 in
set_option maxHeartbeats 4000000 in
theorem c_X3_along (l : Launch) (D : va_G) (cI cJ : ClassId) (mm ac ar al aq ab : Nat) (th C R lim np qb qs wd sm : Int) (gc gr gl : Nat → Int) (N L : Int → Int) (x : Int) (hM : MdOK C R np N gc gr) (hL : MLen L gl) (hlm : 1 ≤ lim ∧ lim ≤ 60) (hx0 : 0 ≤ x) (hx1 : x < 16807) (hxr : x / 343 / 7 < R) : PM l yX3_along (.code yX3_along cX3_along 4 (some .int)) 4 [.ref mm, .int (iI x)] D cI cJ [(mm, .inr (3, [.int (iI th), .int (iI C), .int (iI R), .int (iI lim), .int (iI np), .ref ac, .ref ar, .int (iI qb), .int (iI qs), .int (iI wd), .int (iI sm), .ref al, .ref aq, .ref ab])), (ac, .inl (cI, 3, .inl (aI gc))), (ar, .inl (cI, 3, .inl (aI gr))), (al, .inl (cI, 16807, .inl (aI gl)))] (fun r => r = cdZ C R N L (tauZ x)) := by
  obtain ⟨hC1, hC2, hR1, hR2, hp1, hp2, -, -⟩ := id hM
  have hLx := hL.b (tauZ x)
  have hLm1 := hL.2.2 (-1) (by omega)
  refine PM_of (by decide) rfl (Nat.le_of_ble_eq_true rfl) (fun p e s m below meth c ls hx hb hr hts hown hlk hml hK hP hl => ?_)
  have hl : lv_has ls 4 [(0, .ref mm), (1, .int (iI x))] := hl
  refine zv_iconst hx hb dX3_along_0 ?_
  refine lv_istore_n (lv' := [(2, .int (iI 0)), (0, .ref mm), (1, .int (iI x))]) hx hb dX3_along_1 rfl hl (by decide) rfl (fun ls hl => ?_)
  have loop2 : ∀ (n : Nat) (d : Int), (0 ≤ d) → (d ≤ 4) → (d = 0 ∨ 1 ≤ L (tauZ x)) → (∀ i, 0 ≤ i → i < d → L (aftZ C R N (tauZ x) i) ≠ L (tauZ x) - 1) → (4 - d < (n : Int)) → ∀ ls : Array Slot, lv_has ls 4 [(0, .ref mm), (1, .int (iI x)), (2, .int (iI d))] → W p l e (lvl 4) s m [.ref mm, .int (iI x)].toArray below meth c s.heap [] 0 0 (MQ below (PQ (fun r => r = cdZ C R N L (tauZ x))) [.ref mm, .int (iI x)].toArray s 0 0 (fun _ => False)) (F0 m 2 ls []) := by
    intro n
    induction n with
    | zero => intro d hd0 hd4 hpo hno hms; exfalso; omega
    | succ n ih =>
      intro d hd0 hd4 hpo hno hms ls hl
      have hm := maf_b hM (x := x) (d := d) (by omega) (by omega) (by omega)
      have ht := tM_b hm
      have hLb := hL.b (aftZ C R N (tauZ x) d)
      have hLn : tM (aftZ C R N (tauZ x) d) = -1 → L (aftZ C R N (tauZ x) d) = -1 := fun h => by rw [show aftZ C R N (tauZ x) d = -1 by omega]; exact hLm1
      refine lv_iload_n hx hb dX3_along_2 rfl (lv_at hl 2 rfl) ?_
      refine zv_iconst hx hb dX3_along_3 ?_
      refine zv_icmp_ge hx hb dX3_along_4 (tgt := 53) (by decide) ⟨by omega, by omega⟩ ⟨by omega, by omega⟩ (fun c_1 => ?_) (fun c_1 => ?_)
      · refine zv_iconst hx hb dX3_along_53 ?_
        exact PM_iret hx hb hr hlk dX3_along_54 (by first | exact cdZ_lo (by omega) | exact cdZ_no (by omega) (fun i h0 h1 => hno i h0 (by omega)))
      · refine lv_aload_n hx hb dX3_along_7 rfl (lv_at hl 0 rfl) ?_
        refine va_get (D := D) (ci := 3) (v := .ref al) (C := RX3) (T := TX3) (N := 14) hx hb hts uX3 hown hK.1 hP 0 rfl rfl 11 (by decide) (hts _ q_537) (fun _ h9 => h9) rfl dX3_along_8 ?_
        refine lv_iload_n hx hb dX3_along_11 rfl (lv_at hl 1 rfl) ?_
        refine zv_iald hx hb hK.1 hP 3 0 rfl rfl (by omega) (by omega) (by omega) dX3_along_12 ?_
        refine zv_top (y := L (tauZ x)) (hL.at (by omega) (by omega)) ?_
        refine zv_if_le hx hb dX3_along_13 (tgt := 53) (by decide) ⟨by omega, by omega⟩ (fun c_2 => ?_) (fun c_2 => ?_)
        · refine zv_iconst hx hb dX3_along_53 ?_
          exact PM_iret hx hb hr hlk dX3_along_54 (by first | exact cdZ_lo (by omega) | exact cdZ_no (by omega) (fun i h0 h1 => hno i h0 (by omega)))
        · refine lv_aload_n hx hb dX3_along_16 rfl (lv_at hl 0 rfl) ?_
          refine lv_iload_n hx hb dX3_along_17 rfl (lv_at hl 1 rfl) ?_
          refine lv_iload_n hx hb dX3_along_18 rfl (lv_at hl 2 rfl) ?_
          refine zc_V (As := [.int (iI x), .int (iI d)]) (rest := []) (ws := [(mm, .inr (3, [.int (iI th), .int (iI C), .int (iI R), .int (iI lim), .int (iI np), .ref ac, .ref ar, .int (iI qb), .int (iI qs), .int (iI wd), .int (iI sm), .ref al, .ref aq, .ref ab])), (ac, .inl (cI, 3, .inl (aI gc))), (ar, .inl (cI, 3, .inl (aI gr))), (al, .inl (cI, 16807, .inl (aI gl)))]) (n := 2) hx hb (hml.trans hl.1.symm) hts hown hK hP (c_X3_after l D cI cJ mm ac ar al aq ab th C R lim np qb qs wd sm gc gr N x d hM (by omega) (by omega) (by omega) (by omega) (by omega)) (gd_V q_489 q_491 q_1015 q_6 q_492) (by decide +kernel) rfl ⟨Nat.le_of_ble_eq_true rfl, Nat.le_of_ble_eq_true rfl⟩ ⟨Nat.zero_le _, Nat.zero_le _⟩ [0, 1, 2] rfl 0 (ci := 3) rfl rfl rfl rfl (Nat.le_of_ble_eq_true rfl) dX3_along_19 (fun r_3 hr_3 => ?_)
          subst hr_3
          refine lv_istore_n (lv' := [(3, .int (iI (tM (aftZ C R N (tauZ x) d)))), (0, .ref mm), (1, .int (iI x)), (2, .int (iI d))]) hx hb dX3_along_22 rfl hl (by decide) rfl (fun ls hl => ?_)
          refine lv_iload_n hx hb dX3_along_23 rfl (lv_at hl 0 rfl) ?_
          refine zv_iconst hx hb dX3_along_24 ?_
          refine zv_icmp_eq hx hb dX3_along_25 (tgt := 47) (by decide) ⟨by omega, by omega⟩ ⟨by omega, by omega⟩ (fun c_4 => ?_) (fun c_4 => ?_)
          · refine zv_iinc (k := 3) (lv' := [(2, .int (iI (d + 1))), (3, .int (iI (tM (aftZ C R N (tauZ x) d)))), (0, .ref mm), (1, .int (iI x))]) hx hb dX3_along_47 hl rfl (by decide) rfl (fun ls hl => ?_)
            refine lv_goto (tgt := 2) hx hb dX3_along_50 (by decide) ?_
            exact ih (d + 1) (by omega) (by omega) (by omega) (fun i h0 h1 => (ilt h1).elim (hno i h0) (fun e => by rw [e]; first | assumption | (have h9 := hLn (by assumption); omega))) (by omega) ls (lv_sub hl [2, 3, 0] rfl)
          · refine lv_aload_n hx hb dX3_along_28 rfl (lv_at hl 1 rfl) ?_
            refine va_get (D := D) (ci := 3) (v := .ref al) (C := RX3) (T := TX3) (N := 14) hx hb hts uX3 hown hK.1 hP 0 rfl rfl 11 (by decide) (hts _ q_537) (fun _ h9 => h9) rfl dX3_along_29 ?_
            refine lv_iload_n hx hb dX3_along_32 rfl (lv_at hl 0 rfl) ?_
            refine zv_iald hx hb hK.1 hP 3 0 rfl rfl (by omega) (by omega) (by omega) dX3_along_33 ?_
            refine zv_top (y := L (aftZ C R N (tauZ x) d)) (hL.tm hm (by assumption)) ?_
            refine lv_aload_n hx hb dX3_along_34 rfl (lv_at hl 1 rfl) ?_
            refine va_get (D := D) (ci := 3) (v := .ref al) (C := RX3) (T := TX3) (N := 14) hx hb hts uX3 hown hK.1 hP 0 rfl rfl 11 (by decide) (hts _ q_537) (fun _ h9 => h9) rfl dX3_along_35 ?_
            refine lv_iload_n hx hb dX3_along_38 rfl (lv_at hl 2 rfl) ?_
            refine zv_iald hx hb hK.1 hP 3 0 rfl rfl (by omega) (by omega) (by omega) dX3_along_39 ?_
            refine zv_top (y := L (tauZ x)) (hL.at (by omega) (by omega)) ?_
            refine zv_iconst hx hb dX3_along_40 ?_
            refine zv_isub hx hb dX3_along_41 ?_
            refine zv_icmp_ne hx hb dX3_along_42 (tgt := 47) (by decide) ⟨by omega, by omega⟩ ⟨by omega, by omega⟩ (fun c_5 => ?_) (fun c_5 => ?_)
            · refine zv_iinc (k := 3) (lv' := [(2, .int (iI (d + 1))), (3, .int (iI (tM (aftZ C R N (tauZ x) d)))), (0, .ref mm), (1, .int (iI x))]) hx hb dX3_along_47 hl rfl (by decide) rfl (fun ls hl => ?_)
              refine lv_goto (tgt := 2) hx hb dX3_along_50 (by decide) ?_
              exact ih (d + 1) (by omega) (by omega) (by omega) (fun i h0 h1 => (ilt h1).elim (hno i h0) (fun e => by rw [e]; first | assumption | (have h9 := hLn (by assumption); omega))) (by omega) ls (lv_sub hl [2, 3, 0] rfl)
            · refine lv_iload_n hx hb dX3_along_45 rfl (lv_at hl 3 rfl) ?_
              exact PM_iret hx hb hr hlk dX3_along_46 (cdZ_at (by omega) (by omega) (by omega) hno (by assumption))
  exact loop2 5 0 (by omega) (by omega) (by omega) (fun i _ h => absurd h (by omega)) (by omega) ls (lv_sub hl [1, 2, 0] rfl)
set_option maxRecDepth 100000 in
set_option maxHeartbeats 4000000 in
theorem c_X3_leastOf (l : Launch) (D : va_G) (cI cJ : ClassId) (mm ac ar al aq ab : Nat) (th C R lim np qb qs wd sm : Int) (gc gr gl : Nat → Int) (N L : Int → Int) (q : Int) (hM : MdOK C R np N gc gr) (hL : MLen L gl) (hlm : 1 ≤ lim ∧ lim ≤ 60) (hq0 : 0 ≤ q) (hq1 : q < 49) : PM l yX3_leastOf (.code yX3_leastOf cX3_leastOf 4 (some .int)) 0 [.ref mm, .int (iI q)] D cI cJ [(mm, .inr (3, [.int (iI th), .int (iI C), .int (iI R), .int (iI lim), .int (iI np), .ref ac, .ref ar, .int (iI qb), .int (iI qs), .int (iI wd), .int (iI sm), .ref al, .ref aq, .ref ab])), (ac, .inl (cI, 3, .inl (aI gc))), (ar, .inl (cI, 3, .inl (aI gr))), (al, .inl (cI, 16807, .inl (aI gl)))] (fun r => r = lsZ L (q % 7 * 7 + q / 7)) := by
  obtain ⟨hC1, hC2, hR1, hR2, hp1, hp2, -, -⟩ := id hM
  refine PM_of (by decide) rfl (Nat.le_of_ble_eq_true rfl) (fun p e s m below meth c ls hx hb hr hts hown hlk hml hK hP hl => ?_)
  have hl : lv_has ls 4 [(0, .ref mm), (1, .int (iI q))] := hl
  refine zv_iconst hx hb dX3_leastOf_0 ?_
  refine lv_istore_n (lv' := [(2, .int (iI (-1))), (0, .ref mm), (1, .int (iI q))]) hx hb dX3_leastOf_1 rfl hl (by decide) rfl (fun ls hl => ?_)
  refine zv_sipush hx hb dX3_leastOf_2 (by decide) ?_
  refine lv_iload_n hx hb dX3_leastOf_5 rfl (lv_at hl 2 rfl) ?_
  refine zv_imul hx hb dX3_leastOf_6 ?_
  refine lv_istore_n (lv' := [(3, .int (iI (343 * q))), (2, .int (iI (-1))), (0, .ref mm), (1, .int (iI q))]) hx hb dX3_leastOf_7 rfl hl (by decide) rfl (fun ls hl => ?_)
  have loop8 : ∀ (n : Nat) (y i : Int) (j : Nat), (i = 343 * q + (j : Int)) → ((j : Int) ≤ 343) → (y = lsN L (q % 7 * 7 + q / 7) j) → (343 * q + 343 - i < (n : Int)) → ∀ ls : Array Slot, lv_has ls 4 [(0, .ref mm), (1, .int (iI q)), (2, .int (iI y)), (3, .int (iI i))] → W p l e (lvl 0) s m [.ref mm, .int (iI q)].toArray below meth c s.heap [] 0 0 (MQ below (PQ (fun r => r = lsZ L (q % 7 * 7 + q / 7))) [.ref mm, .int (iI q)].toArray s 0 0 (fun _ => False)) (F0 m 8 ls []) := by
    intro n
    induction n with
    | zero => intro y i j hi hij hy hms; exfalso; omega
    | succ n ih =>
      intro y i j hi hij hy hms ls hl
      have hyb := lsN_b2 hL.2.1 (q % 7 * 7 + q / 7) j
      rw [← hy] at hyb
      have hLb := hL.b ((q % 7 * 7 + q / 7) * 343 + (j : Int))
      have hti : (j : Int) < 343 → tauZ i = (q % 7 * 7 + q / 7) * 343 + (j : Int) := fun h => by unfold tauZ; omega
      refine lv_iload_n hx hb dX3_leastOf_8 rfl (lv_at hl 3 rfl) ?_
      refine zv_sipush hx hb dX3_leastOf_9 (by decide) ?_
      refine lv_iload_n hx hb dX3_leastOf_12 rfl (lv_at hl 1 rfl) ?_
      refine zv_imul hx hb dX3_leastOf_13 ?_
      refine zv_sipush hx hb dX3_leastOf_14 (by decide) ?_
      refine zv_iadd hx hb dX3_leastOf_17 ?_
      refine zv_icmp_ge hx hb dX3_leastOf_18 (tgt := 63) (by decide) ⟨by omega, by omega⟩ ⟨by omega, by omega⟩ (fun c_1 => ?_) (fun c_1 => ?_)
      · refine lv_iload_n hx hb dX3_leastOf_63 rfl (lv_at hl 2 rfl) ?_
        exact PM_iret hx hb hr hlk dX3_leastOf_64 (by rw [hy, show j = 343 by omega]; rfl)
      · refine lv_aload_n hx hb dX3_leastOf_21 rfl (lv_at hl 0 rfl) ?_
        refine va_get (D := D) (ci := 3) (v := .ref al) (C := RX3) (T := TX3) (N := 14) hx hb hts uX3 hown hK.1 hP 0 rfl rfl 11 (by decide) (hts _ q_537) (fun _ h9 => h9) rfl dX3_leastOf_22 ?_
        refine lv_iload_n hx hb dX3_leastOf_25 rfl (lv_at hl 3 rfl) ?_
        refine zv_iald hx hb hK.1 hP 3 0 rfl rfl (by omega) (by omega) (by omega) dX3_leastOf_26 ?_
        refine zv_top (y := L ((q % 7 * 7 + q / 7) * 343 + (j : Int))) (by rw [hL.at (by omega) (by omega), hti (by omega)]) ?_
        refine zv_iconst hx hb dX3_leastOf_27 ?_
        refine zv_icmp_eq hx hb dX3_leastOf_28 (tgt := 55) (by decide) ⟨by omega, by omega⟩ ⟨by omega, by omega⟩ (fun c_2 => ?_) (fun c_2 => ?_)
        · refine lv_iload_n hx hb dX3_leastOf_55 rfl (lv_at hl 2 rfl) ?_
          refine lv_istore_n (lv' := [(2, .int (iI y)), (0, .ref mm), (1, .int (iI q)), (3, .int (iI i))]) hx hb dX3_leastOf_56 rfl hl (by decide) rfl (fun ls hl => ?_)
          refine zv_iinc (k := 3) (lv' := [(3, .int (iI (i + 1))), (2, .int (iI y)), (0, .ref mm), (1, .int (iI q))]) hx hb dX3_leastOf_57 hl rfl (by decide) rfl (fun ls hl => ?_)
          refine lv_goto (tgt := 8) hx hb dX3_leastOf_60 (by decide) ?_
          exact ih y (i + 1) (j + 1) (by omega) (by omega) (by unfold lsN; rw [← hy]; first | rw [if_pos (by omega)] | rw [if_neg (by omega)]) (by omega) ls (lv_sub hl [2, 3, 1, 0] rfl)
        · refine lv_iload_n hx hb dX3_leastOf_31 rfl (lv_at hl 2 rfl) ?_
          refine zv_iconst hx hb dX3_leastOf_32 ?_
          refine zv_icmp_eq hx hb dX3_leastOf_33 (tgt := 46) (by decide) ⟨by omega, by omega⟩ ⟨by omega, by omega⟩ (fun c_3 => ?_) (fun c_3 => ?_)
          · refine lv_aload_n hx hb dX3_leastOf_46 rfl (lv_at hl 0 rfl) ?_
            refine va_get (D := D) (ci := 3) (v := .ref al) (C := RX3) (T := TX3) (N := 14) hx hb hts uX3 hown hK.1 hP 0 rfl rfl 11 (by decide) (hts _ q_537) (fun _ h9 => h9) rfl dX3_leastOf_47 ?_
            refine lv_iload_n hx hb dX3_leastOf_50 rfl (lv_at hl 3 rfl) ?_
            refine zv_iald hx hb hK.1 hP 3 0 rfl rfl (by omega) (by omega) (by omega) dX3_leastOf_51 ?_
            refine zv_top (y := L ((q % 7 * 7 + q / 7) * 343 + (j : Int))) (by rw [hL.at (by omega) (by omega), hti (by omega)]) ?_
            refine lv_goto (tgt := 56) hx hb dX3_leastOf_52 (by decide) ?_
            refine lv_istore_n (lv' := [(2, .int (iI (L ((q % 7 * 7 + q / 7) * 343 + (j : Int))))), (0, .ref mm), (1, .int (iI q)), (3, .int (iI i))]) hx hb dX3_leastOf_56 rfl hl (by decide) rfl (fun ls hl => ?_)
            refine zv_iinc (k := 3) (lv' := [(3, .int (iI (i + 1))), (2, .int (iI (L ((q % 7 * 7 + q / 7) * 343 + (j : Int))))), (0, .ref mm), (1, .int (iI q))]) hx hb dX3_leastOf_57 hl rfl (by decide) rfl (fun ls hl => ?_)
            refine lv_goto (tgt := 8) hx hb dX3_leastOf_60 (by decide) ?_
            exact ih (L ((q % 7 * 7 + q / 7) * 343 + (j : Int))) (i + 1) (j + 1) (by omega) (by omega) (by unfold lsN; rw [← hy]; first | rw [if_pos (by omega)] | rw [if_neg (by omega)]) (by omega) ls (lv_sub hl [2, 3, 1, 0] rfl)
          · refine lv_aload_n hx hb dX3_leastOf_36 rfl (lv_at hl 0 rfl) ?_
            refine va_get (D := D) (ci := 3) (v := .ref al) (C := RX3) (T := TX3) (N := 14) hx hb hts uX3 hown hK.1 hP 0 rfl rfl 11 (by decide) (hts _ q_537) (fun _ h9 => h9) rfl dX3_leastOf_37 ?_
            refine lv_iload_n hx hb dX3_leastOf_40 rfl (lv_at hl 3 rfl) ?_
            refine zv_iald hx hb hK.1 hP 3 0 rfl rfl (by omega) (by omega) (by omega) dX3_leastOf_41 ?_
            refine zv_top (y := L ((q % 7 * 7 + q / 7) * 343 + (j : Int))) (by rw [hL.at (by omega) (by omega), hti (by omega)]) ?_
            refine lv_iload_n hx hb dX3_leastOf_42 rfl (lv_at hl 2 rfl) ?_
            refine zv_icmp_ge hx hb dX3_leastOf_43 (tgt := 55) (by decide) ⟨by omega, by omega⟩ ⟨by omega, by omega⟩ (fun c_4 => ?_) (fun c_4 => ?_)
            · refine lv_iload_n hx hb dX3_leastOf_55 rfl (lv_at hl 2 rfl) ?_
              refine lv_istore_n (lv' := [(2, .int (iI y)), (0, .ref mm), (1, .int (iI q)), (3, .int (iI i))]) hx hb dX3_leastOf_56 rfl hl (by decide) rfl (fun ls hl => ?_)
              refine zv_iinc (k := 3) (lv' := [(3, .int (iI (i + 1))), (2, .int (iI y)), (0, .ref mm), (1, .int (iI q))]) hx hb dX3_leastOf_57 hl rfl (by decide) rfl (fun ls hl => ?_)
              refine lv_goto (tgt := 8) hx hb dX3_leastOf_60 (by decide) ?_
              exact ih y (i + 1) (j + 1) (by omega) (by omega) (by unfold lsN; rw [← hy]; first | rw [if_pos (by omega)] | rw [if_neg (by omega)]) (by omega) ls (lv_sub hl [2, 3, 1, 0] rfl)
            · refine lv_aload_n hx hb dX3_leastOf_46 rfl (lv_at hl 0 rfl) ?_
              refine va_get (D := D) (ci := 3) (v := .ref al) (C := RX3) (T := TX3) (N := 14) hx hb hts uX3 hown hK.1 hP 0 rfl rfl 11 (by decide) (hts _ q_537) (fun _ h9 => h9) rfl dX3_leastOf_47 ?_
              refine lv_iload_n hx hb dX3_leastOf_50 rfl (lv_at hl 3 rfl) ?_
              refine zv_iald hx hb hK.1 hP 3 0 rfl rfl (by omega) (by omega) (by omega) dX3_leastOf_51 ?_
              refine zv_top (y := L ((q % 7 * 7 + q / 7) * 343 + (j : Int))) (by rw [hL.at (by omega) (by omega), hti (by omega)]) ?_
              refine lv_goto (tgt := 56) hx hb dX3_leastOf_52 (by decide) ?_
              refine lv_istore_n (lv' := [(2, .int (iI (L ((q % 7 * 7 + q / 7) * 343 + (j : Int))))), (0, .ref mm), (1, .int (iI q)), (3, .int (iI i))]) hx hb dX3_leastOf_56 rfl hl (by decide) rfl (fun ls hl => ?_)
              refine zv_iinc (k := 3) (lv' := [(3, .int (iI (i + 1))), (2, .int (iI (L ((q % 7 * 7 + q / 7) * 343 + (j : Int))))), (0, .ref mm), (1, .int (iI q))]) hx hb dX3_leastOf_57 hl rfl (by decide) rfl (fun ls hl => ?_)
              refine lv_goto (tgt := 8) hx hb dX3_leastOf_60 (by decide) ?_
              exact ih (L ((q % 7 * 7 + q / 7) * 343 + (j : Int))) (i + 1) (j + 1) (by omega) (by omega) (by unfold lsN; rw [← hy]; first | rw [if_pos (by omega)] | rw [if_neg (by omega)]) (by omega) ls (lv_sub hl [2, 3, 1, 0] rfl)
  exact loop8 344 (-1) (343 * q) 0 (by omega) (by omega) rfl (by omega) ls (lv_sub hl [2, 3, 1, 0] rfl)
set_option maxRecDepth 100000 in
set_option maxHeartbeats 4000000 in
theorem c_X3_place (l : Launch) (D : va_G) (cI cJ : ClassId) (mm ac ar al aq ab : Nat) (th C R lim np qb qs wd sm : Int) : PM l yX3_place (.code yX3_place cX3_place 1 (some .int)) 0 [.ref mm] D cI cJ [(mm, .inr (3, [.int (iI th), .int (iI C), .int (iI R), .int (iI lim), .int (iI np), .ref ac, .ref ar, .int (iI qb), .int (iI qs), .int (iI wd), .int (iI sm), .ref al, .ref aq, .ref ab]))] (fun r => r = 343 * qs + wd) := by
  refine PM_of (by decide) rfl (Nat.le_of_ble_eq_true rfl) (fun p e s m below meth c ls hx hb hr hts hown hlk hml hK hP hl => ?_)
  have hl : lv_has ls 1 [(0, .ref mm)] := hl
  refine zv_sipush hx hb dX3_place_0 (by decide) ?_
  refine lv_aload_n hx hb dX3_place_3 rfl (lv_at hl 0 rfl) ?_
  refine va_get (D := D) (ci := 3) (v := .int (iI qs)) (C := RX3) (T := TX3) (N := 14) hx hb hts uX3 hown hK.1 hP 0 rfl rfl 8 (by decide) (hts _ q_534) (fun _ h9 => h9) rfl dX3_place_4 ?_
  refine zv_imul hx hb dX3_place_7 ?_
  refine lv_aload_n hx hb dX3_place_8 rfl (lv_at hl 0 rfl) ?_
  refine va_get (D := D) (ci := 3) (v := .int (iI wd)) (C := RX3) (T := TX3) (N := 14) hx hb hts uX3 hown hK.1 hP 0 rfl rfl 9 (by decide) (hts _ q_535) (fun _ h9 => h9) rfl dX3_place_9 ?_
  refine zv_iadd hx hb dX3_place_12 ?_
  exact PM_iret hx hb hr hlk dX3_place_13 (by first | rfl | omega)
set_option maxRecDepth 100000 in
set_option maxHeartbeats 4000000 in
theorem c_X3_thrown (l : Launch) (D : va_G) (cI cJ : ClassId) (mm ac ar al aq ab : Nat) (th C R lim np qb qs wd sm : Int) : PM l yX3_thrown (.code yX3_thrown cX3_thrown 1 (some .int)) 0 [.ref mm] D cI cJ [(mm, .inr (3, [.int (iI th), .int (iI C), .int (iI R), .int (iI lim), .int (iI np), .ref ac, .ref ar, .int (iI qb), .int (iI qs), .int (iI wd), .int (iI sm), .ref al, .ref aq, .ref ab]))] (fun r => r = th) := by
  refine PM_of (by decide) rfl (Nat.le_of_ble_eq_true rfl) (fun p e s m below meth c ls hx hb hr hts hown hlk hml hK hP hl => ?_)
  have hl : lv_has ls 1 [(0, .ref mm)] := hl
  refine lv_aload_n hx hb dX3_thrown_0 rfl (lv_at hl 0 rfl) ?_
  refine va_get (D := D) (ci := 3) (v := .int (iI th)) (C := RX3) (T := TX3) (N := 14) hx hb hts uX3 hown hK.1 hP 0 rfl rfl 0 (by decide) (hts _ q_526) (fun _ h9 => h9) rfl dX3_thrown_1 ?_
  exact PM_iret hx hb hr hlk dX3_thrown_4 (by first | rfl | omega)
