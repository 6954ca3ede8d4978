set_option maxRecDepth 100000 in
set_option maxHeartbeats 4000000 in
theorem c_X2_squares (l : Launch) (D : va_G) (cI cJ : ClassId) (tt fl s1 s2 pn d1 r1 : Nat) (lim bs P sm C R np c1 : Int) (gn g1 : Nat → Int) (N L : Int → Int) (hF : FlOK C R np N gn) (hL : LenOK L g1) (hlm : 1 ≤ lim ∧ lim ≤ 60) : PM l yX2_squares (.code yX2_squares cX2_squares 3 (some .int)) 3 [.ref tt] D cI cJ [(tt, .inr (2, [.ref fl, .int (iI lim), .ref s1, .ref s2, .int (iI bs), .int (iI P), .int (iI sm)])), (fl, .inr (0, [.int (iI C), .int (iI R), .ref pn, .int (iI np)])), (pn, .inl (cI, 49, .inl (aI gn))), (s1, .inr (1, [.ref d1, .ref r1, .int (iI c1)])), (d1, .inl (cI, 16807, .inl (aI g1)))] (fun r => r = sqN L lim 49) := by
  obtain ⟨hC1, hC2, hR1, hR2, hp1, hp2, -, -⟩ := id hF
  refine PM_of (by decide) rfl (Nat.le_of_ble_eq_true rfl) (fun p e s m below meth c ls hx hb hr hts hown hlk hml hK hP hl => ?_)
  have hl : lv_has ls 3 [(0, .ref tt)] := hl
  refine zv_iconst hx hb dX2_squares_0 ?_
  refine lv_istore_n (lv' := [(1, .int (iI 0)), (0, .ref tt)]) hx hb dX2_squares_1 rfl hl (by decide) rfl (fun ls hl => ?_)
  refine zv_iconst hx hb dX2_squares_2 ?_
  refine lv_istore_n (lv' := [(2, .int (iI 0)), (1, .int (iI 0)), (0, .ref tt)]) hx hb dX2_squares_3 rfl hl (by decide) rfl (fun ls hl => ?_)
  have loop4 : ∀ (nn : Nat) (u i : Int) (j : Nat), (i = (j : Int)) → ((j : Int) ≤ 49) → (u = sqN L lim j) → (49 - (j : Int) < (nn : Int)) → ∀ ls : Array Slot, lv_has ls 3 [(0, .ref tt), (1, .int (iI u)), (2, .int (iI i))] → W p l e (lvl 3) s m [.ref tt].toArray below meth c s.heap [] 0 0 (MQ below (PQ (fun r => r = sqN L lim 49)) [.ref tt].toArray s 0 0 (fun _ => False)) (F0 m 4 ls []) := by
    intro nn
    induction nn with
    | zero => intro u i j hij hj hu hms; exfalso; omega
    | succ nn ih4 =>
      intro u i j hij hj hu hms ls hl
      have hlb := lsZ_b hL i
      refine lv_iload_n hx hb dX2_squares_4 rfl (lv_at hl 2 rfl) ?_
      refine zv_bipush hx hb dX2_squares_5 (by decide) ?_
      refine zv_icmp_ge hx hb dX2_squares_7 (tgt := 31) (by decide) ⟨by omega, by omega⟩ ⟨by omega, by omega⟩ (fun c_1 => ?_) (fun c_1 => ?_)
      · refine lv_iload_n hx hb dX2_squares_31 rfl (lv_at hl 1 rfl) ?_
        exact PM_iret hx hb hr hlk dX2_squares_32 (by rw [hu, show j = 49 by omega])
      · refine lv_aload_n hx hb dX2_squares_10 rfl (lv_at hl 0 rfl) ?_
        refine lv_aload_n hx hb dX2_squares_11 rfl (lv_at hl 0 rfl) ?_
        refine lv_iload_n hx hb dX2_squares_12 rfl (lv_at hl 2 rfl) ?_
        refine zc_V (As := [.int (iI i)]) (rest := [.ref tt]) (ws := [(tt, .inr (2, [.ref fl, .int (iI lim), .ref s1, .ref s2, .int (iI bs), .int (iI P), .int (iI sm)])), (fl, .inr (0, [.int (iI C), .int (iI R), .ref pn, .int (iI np)])), (pn, .inl (cI, 49, .inl (aI gn))), (s1, .inr (1, [.ref d1, .ref r1, .int (iI c1)])), (d1, .inl (cI, 16807, .inl (aI g1)))]) (n := 1) hx hb (hml.trans hl.1.symm) hts hown hK hP (c_X2_leastLengthOf l D cI cJ tt fl s1 s2 pn d1 r1 lim bs P sm C R np c1 gn g1 N L i hF hL hlm (by omega) (by omega)) (gd_V q_224 q_226 q_1007 q_1 q_227) (by decide +kernel) rfl ⟨Nat.le_of_ble_eq_true rfl, Nat.le_of_ble_eq_true rfl⟩ ⟨Nat.zero_le _, Nat.zero_le _⟩ [0, 1, 2, 3, 4] rfl 0 (ci := 2) rfl rfl rfl rfl (Nat.le_of_ble_eq_true rfl) dX2_squares_13 (fun r_2 hr_2 => ?_)
        subst r_2
        refine zc_V (As := [.int (iI (lsZ L i))]) (rest := []) (ws := [(tt, .inr (2, [.ref fl, .int (iI lim), .ref s1, .ref s2, .int (iI bs), .int (iI P), .int (iI sm)])), (fl, .inr (0, [.int (iI C), .int (iI R), .ref pn, .int (iI np)])), (pn, .inl (cI, 49, .inl (aI gn))), (s1, .inr (1, [.ref d1, .ref r1, .int (iI c1)])), (d1, .inl (cI, 16807, .inl (aI g1)))]) (n := 1) hx hb (hml.trans hl.1.symm) hts hown hK hP (c_X2_isWithinLimit l D cI cJ tt fl s1 s2 pn d1 r1 lim bs P sm C R np c1 gn g1 N L (lsZ L i) hF hL hlm (by omega) (by omega)) (gd_V q_228 q_230 q_1008 q_1 q_231) (by decide +kernel) rfl ⟨Nat.le_of_ble_eq_true rfl, Nat.le_of_ble_eq_true rfl⟩ ⟨Nat.zero_le _, Nat.zero_le _⟩ [0, 1, 2, 3, 4] rfl 0 (ci := 2) rfl rfl rfl rfl (Nat.le_of_ble_eq_true rfl) dX2_squares_16 (fun r_3 hr_3 => ?_)
        have hr9 := hr_3
        refine zv_if_eq hx hb dX2_squares_19 (tgt := 25) (by decide) ⟨by omega, by omega⟩ (fun c_4 => ?_) (fun c_4 => ?_)
        · refine zv_iinc (k := 2) (lv' := [(2, .int (iI (i + 1))), (0, .ref tt), (1, .int (iI u))]) hx hb dX2_squares_25 hl rfl (by decide) rfl (fun ls hl => ?_)
          refine lv_goto (tgt := 4) hx hb dX2_squares_28 (by decide) ?_
          try (have hr9 := hr9)
          exact ih4 u (i + 1) (j + 1) (by omega) (by omega) (by unfold sqN; rw [← hu, ← hij]; first | rw [if_pos (by omega)] | (rw [if_neg (by omega)]; omega)) (by omega) ls (lv_sub hl [1, 2, 0] rfl)
        · refine zv_iinc (k := 1) (lv' := [(1, .int (iI (u + 1))), (0, .ref tt), (2, .int (iI i))]) hx hb dX2_squares_22 hl rfl (by decide) rfl (fun ls hl => ?_)
          refine zv_iinc (k := 2) (lv' := [(2, .int (iI (i + 1))), (1, .int (iI (u + 1))), (0, .ref tt)]) hx hb dX2_squares_25 hl rfl (by decide) rfl (fun ls hl => ?_)
          refine lv_goto (tgt := 4) hx hb dX2_squares_28 (by decide) ?_
          try (have hr9 := hr9)
          exact ih4 (u + 1) (i + 1) (j + 1) (by omega) (by omega) (by unfold sqN; rw [← hu, ← hij]; first | rw [if_pos (by omega)] | (rw [if_neg (by omega)]; omega)) (by omega) ls (lv_sub hl [2, 1, 0] rfl)
  exact loop4 50 0 0 0 (by omega) (by omega) rfl (by omega) ls (lv_sub hl [2, 1, 0] rfl)
set_option maxRecDepth 100000 in
set_option maxHeartbeats 4000000 in
theorem c_X2_requireSquare (l : Launch) (hl0 : l.stackTraces = false) (D : va_G) (cI cJ : ClassId) (tt fl s1 s2 pn : Nat) (lim bs P sm C R np : Int) (gn : Nat → Int) (N : Int → Int) (a b : Int) (hF : FlOK C R np N gn) (ha1 : -2147483648 ≤ a) (ha2 : a < 2147483648) (hb1 : -2147483648 ≤ b) (hb2 : b < 2147483648) (sz : Nat) : VMv l yX2_requireSquare (.code yX2_requireSquare cX2_requireSquare 3 none) 8 1 6 [.ref tt, .int (iI a), .int (iI b)] D cI cJ [(tt, .inr (2, [.ref fl, .int (iI lim), .ref s1, .ref s2, .int (iI bs), .int (iI P), .int (iI sm)])), (fl, .inr (0, [.int (iI C), .int (iI R), .ref pn, .int (iI np)])), (pn, .inl (cI, 49, .inl (aI gn)))] sz (fun (u : Unit) => (0 ≤ a ∧ a < C ∧ 0 ≤ b ∧ b < R)) (fun u : Unit => [(tt, .inr (2, [.ref fl, .int (iI lim), .ref s1, .ref s2, .int (iI bs), .int (iI P), .int (iI sm)])), (fl, .inr (0, [.int (iI C), .int (iI R), .ref pn, .int (iI np)])), (pn, .inl (cI, 49, .inl (aI gn)))]) (fun (E : String) (u : Unit) => E = eIO ∧ ¬ (0 ≤ a ∧ a < C ∧ 0 ≤ b ∧ b < R)) := by
  obtain ⟨hC1, hC2, hR1, hR2, hp1, hp2, -, -⟩ := id hF
  refine VM_of (Qc := fun A => QMv D A (fun (u : Unit) => (0 ≤ a ∧ a < C ∧ 0 ≤ b ∧ b < R)) (fun u : Unit => [(tt, .inr (2, [.ref fl, .int (iI lim), .ref s1, .ref s2, .int (iI bs), .int (iI P), .int (iI sm)])), (fl, .inr (0, [.int (iI C), .int (iI R), .ref pn, .int (iI np)])), (pn, .inl (cI, 49, .inl (aI gn)))])) (XC := fun A => XQ D A (fun u : Unit => [(tt, .inr (2, [.ref fl, .int (iI lim), .ref s1, .ref s2, .int (iI bs), .int (iI P), .int (iI sm)])), (fl, .inr (0, [.int (iI C), .int (iI R), .ref pn, .int (iI np)])), (pn, .inl (cI, 49, .inl (aI gn)))]) (fun (E : String) (u : Unit) => E = eIO ∧ ¬ (0 ≤ a ∧ a < C ∧ 0 ≤ b ∧ b < R))) (by decide) rfl (Nat.le_of_ble_eq_true rfl) (fun p e s m below meth c ls A hx hb hr hts hown hlk hml hin hK hP hD hA hS hl hE hout => ?_)
  have hl : lv_has ls 3 [(0, .ref tt), (1, .int (iI a)), (2, .int (iI b))] := hl
  refine lv_aload_n hx hb dX2_requireSquare_0 rfl (lv_at hl 0 rfl) ?_
  refine va_get (D := D) (ci := 2) (v := .ref fl) (C := RX2) (T := TX2) (N := 7) hx hb hts uX2 hown hK.1 hP 0 rfl rfl 0 (by decide) (hts _ q_157) (fun _ h9 => h9) rfl dX2_requireSquare_1 ?_
  refine lv_iload_n hx hb dX2_requireSquare_4 rfl (lv_at hl 1 rfl) ?_
  refine lv_iload_n hx hb dX2_requireSquare_5 rfl (lv_at hl 2 rfl) ?_
  refine zc_V (As := [.int (iI a), .int (iI b)]) (rest := []) (ws := [(tt, .inr (2, [.ref fl, .int (iI lim), .ref s1, .ref s2, .int (iI bs), .int (iI P), .int (iI sm)])), (fl, .inr (0, [.int (iI C), .int (iI R), .ref pn, .int (iI np)])), (pn, .inl (cI, 49, .inl (aI gn)))]) (n := 2) hx hb (hml.trans hl.1.symm) hts hown hK hP (c_X0_has l D cI cJ fl pn C R np gn N a b hF (by omega) (by omega) (by omega) (by omega)) (gd_V q_248 q_118 q_119 q_3 q_120) (by decide +kernel) rfl ⟨Nat.le_of_ble_eq_true rfl, Nat.le_of_ble_eq_true rfl⟩ ⟨Nat.le_of_ble_eq_true rfl, Nat.le_of_ble_eq_true rfl⟩ [1, 2] rfl 1 (ci := 0) rfl rfl rfl rfl (Nat.le_of_ble_eq_true rfl) dX2_requireSquare_6 (fun r_1 hr_1 => ?_)
  refine zv_if_ne hx hb dX2_requireSquare_9 (tgt := 22) (by decide) ⟨by omega, by omega⟩ (fun c_2 => ?_) (fun c_2 => ?_)
  · exact vx_ret (MM_vret (()) hx hb hr hlk hP hD hS (Nat.le_of_ble_eq_true rfl) (Nat.le_of_ble_eq_true rfl) dX2_requireSquare_22 (by omega))
  · exact zx_T hx hb hl0 hown hts xt_IO (List.mem_of_getElem? (i := 9) rfl) hE (()) hP hD hS (⟨rfl, by omega⟩) (hml.trans hl.1.symm) dX2_requireSquare_12 dX2_requireSquare_15 dX2_requireSquare_16 dX2_requireSquare_18 dX2_requireSquare_21 hout (Nat.le_of_ble_eq_true rfl) (Nat.le_of_ble_eq_true rfl) (Nat.le_of_ble_eq_true rfl) (Nat.le_of_ble_eq_true rfl) hlk (Nat.le_of_ble_eq_true rfl) (Nat.le_of_ble_eq_true rfl)
