set_option maxRecDepth 100000 in
set_option maxHeartbeats 4000000 in
theorem c_X0_wordToTheRight (l : Launch) (D : va_G) (cI cJ : ClassId) (fl pn : Nat) (C R np : Int) (gn : Nat → Int) (N : Int → Int) (w a b : Int) (hF : FlOK C R np N gn) (ha1 : -2 ≤ a) (ha2 : a ≤ 8) (hb1 : 0 ≤ b) (hb2 : b < R) (hw0 : 0 ≤ w) (hw1 : w < 343) : PM l yX0_wordToTheRight (.code yX0_wordToTheRight cX0_wordToTheRight 7 (some .int)) 3 [.ref fl, .int (iI w), .int (iI a), .int (iI b)] D cI cJ [(fl, .inr (0, [.int (iI C), .int (iI R), .ref pn, .int (iI np)])), (pn, .inl (cI, 49, .inl (aI gn)))] (fun r => r = wRZ N R a b w) := by
  obtain ⟨hC1, hC2, hR1, hR2, hp1, hp2, -, -⟩ := id hF
  refine PM_of (by decide) rfl (Nat.le_of_ble_eq_true rfl) (fun p e s m below meth c ls hx hb hr hts hown hlk hml hK hP hl => ?_)
  have hl : lv_has ls 7 [(0, .ref fl), (1, .int (iI w)), (2, .int (iI a)), (3, .int (iI b))] := hl
  refine lv_iload_n hx hb dX0_wordToTheRight_0 rfl (lv_at hl 1 rfl) ?_
  refine lv_istore (lv' := [(4, .int (iI w)), (0, .ref fl), (1, .int (iI w)), (2, .int (iI a)), (3, .int (iI b))]) hx hb dX0_wordToTheRight_1 hl (by decide) rfl (fun ls hl => ?_)
  refine lv_iload_n hx hb dX0_wordToTheRight_3 rfl (lv_at hl 4 rfl) ?_
  refine zv_iconst hx hb dX0_wordToTheRight_4 ?_
  refine zv_iadd hx hb dX0_wordToTheRight_5 ?_
  refine lv_istore (lv' := [(5, .int (iI (b + 1))), (4, .int (iI w)), (0, .ref fl), (1, .int (iI w)), (2, .int (iI a)), (3, .int (iI b))]) hx hb dX0_wordToTheRight_6 hl (by decide) rfl (fun ls hl => ?_)
  have loop8 : ∀ (n : Nat) (x y : Int) (j : Nat), (y = b + 1 + (j : Int)) → (y ≤ R) → (x = wRn N a j (b + 1) w) → (R - y < (n : Int)) → ∀ ls : Array Slot, lv_has ls 7 [(0, .ref fl), (1, .int (iI w)), (2, .int (iI a)), (3, .int (iI b)), (4, .int (iI x)), (5, .int (iI y))] → W p l e (lvl 3) s m [.ref fl, .int (iI w), .int (iI a), .int (iI b)].toArray below meth c s.heap [] 0 0 (MQ below (PQ (fun r => r = wRZ N R a b w)) [.ref fl, .int (iI w), .int (iI a), .int (iI b)].toArray s 0 0 (fun _ => False)) (F0 m 8 ls []) := by
    intro n
    induction n with
    | zero => intro x y j hy hyR hxw hms; exfalso; omega
    | succ n ih =>
      intro x y j hy hyR hxw hms ls hl
      have hN2 := hF.N2 (a * 7 + y)
      have hxb := wRn_b hF (c := a) hw0 hw1 j (b + 1)
      have hpb := pw7_le j (by omega)
      rw [← hxw] at hxb
      refine lv_iload hx hb dX0_wordToTheRight_8 (lv_at hl 5 rfl) ?_
      refine lv_aload_n hx hb dX0_wordToTheRight_10 rfl (lv_at hl 0 rfl) ?_
      refine va_get (D := D) (ci := 0) (v := .int (iI R)) (C := RX0) (T := TX0) (N := 4) hx hb hts uX0 hown hK.1 hP 0 rfl rfl 1 (by decide) (hts _ q_58) (fun _ h9 => h9) rfl dX0_wordToTheRight_11 ?_
      refine zv_icmp_ge hx hb dX0_wordToTheRight_14 (tgt := 52) (by decide) ⟨by omega, by omega⟩ ⟨by omega, by omega⟩ (fun c_1 => ?_) (fun c_1 => ?_)
      · refine lv_iload hx hb dX0_wordToTheRight_52 (lv_at hl 4 rfl) ?_
        exact PM_iret hx hb hr hlk dX0_wordToTheRight_54 (by rw [hxw]; unfold wRZ; rw [show (R - 1 - b).toNat = j by omega])
      · refine lv_aload_n hx hb dX0_wordToTheRight_17 rfl (lv_at hl 0 rfl) ?_
        refine lv_iload_n hx hb dX0_wordToTheRight_18 rfl (lv_at hl 2 rfl) ?_
        refine lv_iload hx hb dX0_wordToTheRight_19 (lv_at hl 5 rfl) ?_
        refine zc_SN (As := [.int (iI a), .int (iI y)]) (rest := [.ref fl]) (ws := [(fl, .inr (0, [.int (iI C), .int (iI R), .ref pn, .int (iI np)])), (pn, .inl (cI, 49, .inl (aI gn)))]) (n := 2) hx hb (hml.trans hl.1.symm) hts hown hK hP (c_X2_squareAt l D cI cJ a y) q_72 q_71 q_1 (by decide +kernel) (by decide +kernel) rfl ⟨Nat.le_of_ble_eq_true rfl, Nat.le_of_ble_eq_true rfl⟩ ⟨Nat.zero_le _, Nat.zero_le _⟩ [] rfl rfl (Nat.le_of_ble_eq_true rfl) dX0_wordToTheRight_21 (fun r_2 hr_2 => ?_)
        subst hr_2
        refine zc_V (As := [.int (iI (a * 7 + y))]) (rest := []) (ws := [(fl, .inr (0, [.int (iI C), .int (iI R), .ref pn, .int (iI np)])), (pn, .inl (cI, 49, .inl (aI gn)))]) (n := 1) hx hb (hml.trans hl.1.symm) hts hown hK hP (c_X0_pillarNumberOf l D cI cJ fl pn C R np gn N (a * 7 + y) hF (by omega) (by omega)) (gd_V q_126 q_128 q_1003 q_3 q_129) (by decide +kernel) rfl ⟨Nat.le_of_ble_eq_true rfl, Nat.le_of_ble_eq_true rfl⟩ ⟨Nat.zero_le _, Nat.zero_le _⟩ [0, 1] rfl 0 (ci := 0) rfl rfl rfl rfl (Nat.le_of_ble_eq_true rfl) dX0_wordToTheRight_24 (fun r_3 hr_3 => ?_)
        subst hr_3
        refine lv_istore (lv' := [(6, .int (iI (N (a * 7 + y)))), (0, .ref fl), (1, .int (iI w)), (2, .int (iI a)), (3, .int (iI b)), (4, .int (iI x)), (5, .int (iI y))]) hx hb dX0_wordToTheRight_27 hl (by decide) rfl (fun ls hl => ?_)
        refine lv_iload hx hb dX0_wordToTheRight_29 (lv_at hl 0 rfl) ?_
        refine zv_iconst hx hb dX0_wordToTheRight_31 ?_
        refine zv_icmp_eq hx hb dX0_wordToTheRight_32 (tgt := 46) (by decide) ⟨by omega, by omega⟩ ⟨by omega, by omega⟩ (fun c_4 => ?_) (fun c_4 => ?_)
        · refine zv_iinc (k := 6) (lv' := [(5, .int (iI (y + 1))), (6, .int (iI (N (a * 7 + y)))), (0, .ref fl), (1, .int (iI w)), (2, .int (iI a)), (3, .int (iI b)), (4, .int (iI x))]) hx hb dX0_wordToTheRight_46 hl rfl (by decide) rfl (fun ls hl => ?_)
          refine lv_goto (tgt := 8) hx hb dX0_wordToTheRight_49 (by decide) ?_
          exact ih x (y + 1) (j + 1) (by omega) (by omega) (by rw [show wRn N a (j + 1) (b + 1) w = stR N a (b + 1 + j) (wRn N a j (b + 1) w) from rfl, ← hxw, ← hy]; unfold stR; first | rw [if_pos (by assumption)] | rw [if_neg (by assumption)]) (by omega) ls (lv_sub hl [2, 3, 4, 5, 6, 0] rfl)
        · refine lv_iload hx hb dX0_wordToTheRight_35 (lv_at hl 5 rfl) ?_
          refine zv_iconst hx hb dX0_wordToTheRight_37 ?_
          refine lv_iload hx hb dX0_wordToTheRight_38 (lv_at hl 0 rfl) ?_
          refine zv_imul hx hb dX0_wordToTheRight_40 ?_
          refine zc_SN (As := [.int (iI x), .int (iI (2 * N (a * 7 + y)))]) (rest := []) (ws := [(fl, .inr (0, [.int (iI C), .int (iI R), .ref pn, .int (iI np)])), (pn, .inl (cI, 49, .inl (aI gn)))]) (n := 2) hx hb (hml.trans hl.1.symm) hts hown hK hP (c_X2_withLetter l D cI cJ x (2 * N (a * 7 + y)) (by omega) (by omega) (by omega) (by omega)) q_137 q_136 q_1 (by decide +kernel) (by decide +kernel) rfl ⟨Nat.le_of_ble_eq_true rfl, Nat.le_of_ble_eq_true rfl⟩ ⟨Nat.zero_le _, Nat.zero_le _⟩ [] rfl rfl (Nat.le_of_ble_eq_true rfl) dX0_wordToTheRight_41 (fun r_5 hr_5 => ?_)
          subst hr_5
          refine lv_istore (lv' := [(4, .int (iI (wjZ x (2 * N (a * 7 + y))))), (6, .int (iI (N (a * 7 + y)))), (0, .ref fl), (1, .int (iI w)), (2, .int (iI a)), (3, .int (iI b)), (5, .int (iI y))]) hx hb dX0_wordToTheRight_44 hl (by decide) rfl (fun ls hl => ?_)
          refine zv_iinc (k := 6) (lv' := [(5, .int (iI (y + 1))), (4, .int (iI (wjZ x (2 * N (a * 7 + y))))), (6, .int (iI (N (a * 7 + y)))), (0, .ref fl), (1, .int (iI w)), (2, .int (iI a)), (3, .int (iI b))]) hx hb dX0_wordToTheRight_46 hl rfl (by decide) rfl (fun ls hl => ?_)
          refine lv_goto (tgt := 8) hx hb dX0_wordToTheRight_49 (by decide) ?_
          exact ih (wjZ x (2 * N (a * 7 + y))) (y + 1) (j + 1) (by omega) (by omega) (by rw [show wRn N a (j + 1) (b + 1) w = stR N a (b + 1 + j) (wRn N a j (b + 1) w) from rfl, ← hxw, ← hy]; unfold stR; first | rw [if_pos (by assumption)] | rw [if_neg (by assumption)]) (by omega) ls (lv_sub hl [3, 4, 5, 6, 1, 0] rfl)
  exact loop8 8 w (b + 1) 0 (by omega) (by omega) rfl (by omega) ls (lv_sub hl [2, 3, 4, 5, 1, 0] rfl)
set_option maxRecDepth 100000 in
set_option maxHeartbeats 4000000 in
theorem c_X0_wordToTheLeft (l : Launch) (D : va_G) (cI cJ : ClassId) (fl pn : Nat) (C R np : Int) (gn : Nat → Int) (N : Int → Int) (w a b : Int) (hF : FlOK C R np N gn) (ha1 : -2 ≤ a) (ha2 : a ≤ 8) (hb1 : 0 ≤ b) (hb2 : b < R) (hw0 : 0 ≤ w) (hw1 : w < 343) : PM l yX0_wordToTheLeft (.code yX0_wordToTheLeft cX0_wordToTheLeft 7 (some .int)) 3 [.ref fl, .int (iI w), .int (iI a), .int (iI b)] D cI cJ [(fl, .inr (0, [.int (iI C), .int (iI R), .ref pn, .int (iI np)])), (pn, .inl (cI, 49, .inl (aI gn)))] (fun r => r = wLZ N R a b w) := by
  obtain ⟨hC1, hC2, hR1, hR2, hp1, hp2, -, -⟩ := id hF
  refine PM_of (by decide) rfl (Nat.le_of_ble_eq_true rfl) (fun p e s m below meth c ls hx hb hr hts hown hlk hml hK hP hl => ?_)
  have hl : lv_has ls 7 [(0, .ref fl), (1, .int (iI w)), (2, .int (iI a)), (3, .int (iI b))] := hl
  refine lv_iload_n hx hb dX0_wordToTheLeft_0 rfl (lv_at hl 1 rfl) ?_
  refine lv_istore (lv' := [(4, .int (iI w)), (0, .ref fl), (1, .int (iI w)), (2, .int (iI a)), (3, .int (iI b))]) hx hb dX0_wordToTheLeft_1 hl (by decide) rfl (fun ls hl => ?_)
  refine lv_aload_n hx hb dX0_wordToTheLeft_3 rfl (lv_at hl 1 rfl) ?_
  refine va_get (D := D) (ci := 0) (v := .int (iI R)) (C := RX0) (T := TX0) (N := 4) hx hb hts uX0 hown hK.1 hP 0 rfl rfl 1 (by decide) (hts _ q_58) (fun _ h9 => h9) rfl dX0_wordToTheLeft_4 ?_
  refine zv_iconst hx hb dX0_wordToTheLeft_7 ?_
  refine zv_isub hx hb dX0_wordToTheLeft_8 ?_
  refine lv_istore (lv' := [(5, .int (iI (R - 1))), (4, .int (iI w)), (0, .ref fl), (1, .int (iI w)), (2, .int (iI a)), (3, .int (iI b))]) hx hb dX0_wordToTheLeft_9 hl (by decide) rfl (fun ls hl => ?_)
  have loop11 : ∀ (n : Nat) (x y : Int) (i : Nat), (y = b + (i : Int)) → (y ≤ R - 1) → (wLn N a i (b + 1) x = wLZ N R a b w) → (0 ≤ x) → (x < pw7 (R - 1 - y).toNat) → (y - b < (n : Int)) → ∀ ls : Array Slot, lv_has ls 7 [(0, .ref fl), (1, .int (iI w)), (2, .int (iI a)), (3, .int (iI b)), (4, .int (iI x)), (5, .int (iI y))] → W p l e (lvl 3) s m [.ref fl, .int (iI w), .int (iI a), .int (iI b)].toArray below meth c s.heap [] 0 0 (MQ below (PQ (fun r => r = wLZ N R a b w)) [.ref fl, .int (iI w), .int (iI a), .int (iI b)].toArray s 0 0 (fun _ => False)) (F0 m 11 ls []) := by
    intro n
    induction n with
    | zero => intro x y i hy hyR hxw hx0 hx1 hms; exfalso; omega
    | succ n ih =>
      intro x y i hy hyR hxw hx0 hx1 hms ls hl
      have hN2 := hF.N2 (a * 7 + y)
      have hpb := pw7_le (R - 1 - y).toNat (by omega)
      refine lv_iload hx hb dX0_wordToTheLeft_11 (lv_at hl 5 rfl) ?_
      refine lv_iload_n hx hb dX0_wordToTheLeft_13 rfl (lv_at hl 3 rfl) ?_
      refine zv_icmp_le hx hb dX0_wordToTheLeft_14 (tgt := 55) (by decide) ⟨by omega, by omega⟩ ⟨by omega, by omega⟩ (fun c_1 => ?_) (fun c_1 => ?_)
      · refine lv_iload hx hb dX0_wordToTheLeft_55 (lv_at hl 4 rfl) ?_
        exact PM_iret hx hb hr hlk dX0_wordToTheLeft_57 (by rw [← hxw, show i = 0 by omega]; rfl)
      · refine lv_aload_n hx hb dX0_wordToTheLeft_17 rfl (lv_at hl 0 rfl) ?_
        refine lv_iload_n hx hb dX0_wordToTheLeft_18 rfl (lv_at hl 2 rfl) ?_
        refine lv_iload hx hb dX0_wordToTheLeft_19 (lv_at hl 5 rfl) ?_
        refine zc_SN (As := [.int (iI a), .int (iI y)]) (rest := [.ref fl]) (ws := [(fl, .inr (0, [.int (iI C), .int (iI R), .ref pn, .int (iI np)])), (pn, .inl (cI, 49, .inl (aI gn)))]) (n := 2) hx hb (hml.trans hl.1.symm) hts hown hK hP (c_X2_squareAt l D cI cJ a y) q_72 q_71 q_1 (by decide +kernel) (by decide +kernel) rfl ⟨Nat.le_of_ble_eq_true rfl, Nat.le_of_ble_eq_true rfl⟩ ⟨Nat.zero_le _, Nat.zero_le _⟩ [] rfl rfl (Nat.le_of_ble_eq_true rfl) dX0_wordToTheLeft_21 (fun r_2 hr_2 => ?_)
        subst hr_2
        refine zc_V (As := [.int (iI (a * 7 + y))]) (rest := []) (ws := [(fl, .inr (0, [.int (iI C), .int (iI R), .ref pn, .int (iI np)])), (pn, .inl (cI, 49, .inl (aI gn)))]) (n := 1) hx hb (hml.trans hl.1.symm) hts hown hK hP (c_X0_pillarNumberOf l D cI cJ fl pn C R np gn N (a * 7 + y) hF (by omega) (by omega)) (gd_V q_126 q_128 q_1003 q_3 q_129) (by decide +kernel) rfl ⟨Nat.le_of_ble_eq_true rfl, Nat.le_of_ble_eq_true rfl⟩ ⟨Nat.zero_le _, Nat.zero_le _⟩ [0, 1] rfl 0 (ci := 0) rfl rfl rfl rfl (Nat.le_of_ble_eq_true rfl) dX0_wordToTheLeft_24 (fun r_3 hr_3 => ?_)
        subst hr_3
        refine lv_istore (lv' := [(6, .int (iI (N (a * 7 + y)))), (0, .ref fl), (1, .int (iI w)), (2, .int (iI a)), (3, .int (iI b)), (4, .int (iI x)), (5, .int (iI y))]) hx hb dX0_wordToTheLeft_27 hl (by decide) rfl (fun ls hl => ?_)
        refine lv_iload hx hb dX0_wordToTheLeft_29 (lv_at hl 0 rfl) ?_
        refine zv_iconst hx hb dX0_wordToTheLeft_31 ?_
        refine zv_icmp_eq hx hb dX0_wordToTheLeft_32 (tgt := 49) (by decide) ⟨by omega, by omega⟩ ⟨by omega, by omega⟩ (fun c_4 => ?_) (fun c_4 => ?_)
        · refine zv_iinc (k := 6) (lv' := [(5, .int (iI (y + (-1)))), (6, .int (iI (N (a * 7 + y)))), (0, .ref fl), (1, .int (iI w)), (2, .int (iI a)), (3, .int (iI b)), (4, .int (iI x))]) hx hb dX0_wordToTheLeft_49 hl rfl (by decide) rfl (fun ls hl => ?_)
          refine lv_goto (tgt := 11) hx hb dX0_wordToTheLeft_52 (by decide) ?_
          obtain ⟨i, rfl⟩ : ∃ i0, i = i0 + 1 := ⟨i - 1, by omega⟩
          have hxs := stL_b hF (c := a) (r := y) hx0 hx1
          have hxe : wLn N a i (b + 1) (stL N a y x) = wLZ N R a b w := by rw [← hxw, show y = b + 1 + (i : Int) by omega]; rfl
          have hpe : (R - 1 - (y + (-1))).toNat = (R - 1 - y).toNat + 1 := by omega
          unfold stL at hxs hxe
          first | rw [if_pos (by assumption)] at hxs hxe | rw [if_neg (by assumption)] at hxs hxe
          exact ih x (y + (-1)) i (by omega) (by omega) hxe hxs.1 (by rw [hpe]; exact hxs.2) (by omega) ls (lv_sub hl [2, 3, 4, 5, 6, 0] rfl)
        · refine lv_iload hx hb dX0_wordToTheLeft_35 (lv_at hl 5 rfl) ?_
          refine zv_iconst hx hb dX0_wordToTheLeft_37 ?_
          refine lv_iload hx hb dX0_wordToTheLeft_38 (lv_at hl 0 rfl) ?_
          refine zv_imul hx hb dX0_wordToTheLeft_40 ?_
          refine zc_SN (As := [.int (iI (2 * N (a * 7 + y)))]) (rest := [.int (iI x)]) (ws := [(fl, .inr (0, [.int (iI C), .int (iI R), .ref pn, .int (iI np)])), (pn, .inl (cI, 49, .inl (aI gn)))]) (n := 1) hx hb (hml.trans hl.1.symm) hts hown hK hP (c_X2_oppositeOf l D cI cJ (2 * N (a * 7 + y)) (by omega) (by omega)) q_143 q_142 q_1 (by decide +kernel) (by decide +kernel) rfl ⟨Nat.le_of_ble_eq_true rfl, Nat.le_of_ble_eq_true rfl⟩ ⟨Nat.zero_le _, Nat.zero_le _⟩ [] rfl rfl (Nat.le_of_ble_eq_true rfl) dX0_wordToTheLeft_41 (fun r_5 hr_5 => ?_)
          subst hr_5
          have hop := oppZ_b (k := 2 * N (a * 7 + y)) (by omega) (by omega)
          refine zc_SN (As := [.int (iI x), .int (iI (oppZ (2 * N (a * 7 + y))))]) (rest := []) (ws := [(fl, .inr (0, [.int (iI C), .int (iI R), .ref pn, .int (iI np)])), (pn, .inl (cI, 49, .inl (aI gn)))]) (n := 2) hx hb (hml.trans hl.1.symm) hts hown hK hP (c_X2_withLetter l D cI cJ x (oppZ (2 * N (a * 7 + y))) (by omega) (by omega) (by omega) (by omega)) q_137 q_136 q_1 (by decide +kernel) (by decide +kernel) rfl ⟨Nat.le_of_ble_eq_true rfl, Nat.le_of_ble_eq_true rfl⟩ ⟨Nat.zero_le _, Nat.zero_le _⟩ [] rfl rfl (Nat.le_of_ble_eq_true rfl) dX0_wordToTheLeft_44 (fun r_6 hr_6 => ?_)
          subst hr_6
          refine lv_istore (lv' := [(4, .int (iI (wjZ x (oppZ (2 * N (a * 7 + y)))))), (6, .int (iI (N (a * 7 + y)))), (0, .ref fl), (1, .int (iI w)), (2, .int (iI a)), (3, .int (iI b)), (5, .int (iI y))]) hx hb dX0_wordToTheLeft_47 hl (by decide) rfl (fun ls hl => ?_)
          refine zv_iinc (k := 6) (lv' := [(5, .int (iI (y + (-1)))), (4, .int (iI (wjZ x (oppZ (2 * N (a * 7 + y)))))), (6, .int (iI (N (a * 7 + y)))), (0, .ref fl), (1, .int (iI w)), (2, .int (iI a)), (3, .int (iI b))]) hx hb dX0_wordToTheLeft_49 hl rfl (by decide) rfl (fun ls hl => ?_)
          refine lv_goto (tgt := 11) hx hb dX0_wordToTheLeft_52 (by decide) ?_
          obtain ⟨i, rfl⟩ : ∃ i0, i = i0 + 1 := ⟨i - 1, by omega⟩
          have hxs := stL_b hF (c := a) (r := y) hx0 hx1
          have hxe : wLn N a i (b + 1) (stL N a y x) = wLZ N R a b w := by rw [← hxw, show y = b + 1 + (i : Int) by omega]; rfl
          have hpe : (R - 1 - (y + (-1))).toNat = (R - 1 - y).toNat + 1 := by omega
          unfold stL at hxs hxe
          first | rw [if_pos (by assumption)] at hxs hxe | rw [if_neg (by assumption)] at hxs hxe
          exact ih (wjZ x (oppZ (2 * N (a * 7 + y)))) (y + (-1)) i (by omega) (by omega) hxe hxs.1 (by rw [hpe]; exact hxs.2) (by omega) ls (lv_sub hl [3, 4, 5, 6, 1, 0] rfl)
  exact loop11 8 w (R - 1) ((R - 1 - b).toNat) (by omega) (by omega) rfl (by omega) (by rw [show (R - 1 - (R - 1)).toNat = 0 by omega]; exact hw1) (by omega) ls (lv_sub hl [2, 3, 4, 5, 1, 0] rfl)
set_option maxRecDepth 100000 in
set_option maxHeartbeats 4000000 in
theorem c_X0_after (l : Launch) (D : va_G) (cI cJ : ClassId) (fl pn : Nat) (C R np : Int) (gn : Nat → Int) (N : Int → Int) (z d : Int) (hF : FlOK C R np N gn) (hz0 : 0 ≤ z) (hz1 : z < 16807) (hd0 : 0 ≤ d) (hd1 : d ≤ 3) (hpr : z / 343 % 7 < R) : PM l yX0_after (.code yX0_after cX0_after 5 (some .int)) 4 [.ref fl, .int (iI z), .int (iI d)] D cI cJ [(fl, .inr (0, [.int (iI C), .int (iI R), .ref pn, .int (iI np)])), (pn, .inl (cI, 49, .inl (aI gn)))] (fun r => r = aftZ C R N z d) := by
  obtain ⟨hC1, hC2, hR1, hR2, hp1, hp2, -, -⟩ := id hF
  refine PM_of (by decide) rfl (Nat.le_of_ble_eq_true rfl) (fun p e s m below meth c ls hx hb hr hts hown hlk hml hK hP hl => ?_)
  have hl : lv_has ls 5 [(0, .ref fl), (1, .int (iI z)), (2, .int (iI d))] := hl
  refine lv_iload_n hx hb dX0_after_0 rfl (lv_at hl 1 rfl) ?_
  refine zc_SN (As := [.int (iI z)]) (rest := []) (ws := [(fl, .inr (0, [.int (iI C), .int (iI R), .ref pn, .int (iI np)])), (pn, .inl (cI, 49, .inl (aI gn)))]) (n := 1) hx hb (hml.trans hl.1.symm) hts hown hK hP (c_X2_squareOf l D cI cJ z (by omega) (by omega)) q_103 q_102 q_1 (by decide +kernel) (by decide +kernel) rfl ⟨Nat.le_of_ble_eq_true rfl, Nat.le_of_ble_eq_true rfl⟩ ⟨Nat.zero_le _, Nat.zero_le _⟩ [] rfl rfl (Nat.le_of_ble_eq_true rfl) dX0_after_1 (fun r_1 hr_1 => ?_)
  subst hr_1
  refine zc_SN (As := [.int (iI (z / 343))]) (rest := []) (ws := [(fl, .inr (0, [.int (iI C), .int (iI R), .ref pn, .int (iI np)])), (pn, .inl (cI, 49, .inl (aI gn)))]) (n := 1) hx hb (hml.trans hl.1.symm) hts hown hK hP (c_X2_columnOf l D cI cJ (z / 343) (by omega) (by omega)) q_106 q_105 q_1 (by decide +kernel) (by decide +kernel) rfl ⟨Nat.le_of_ble_eq_true rfl, Nat.le_of_ble_eq_true rfl⟩ ⟨Nat.zero_le _, Nat.zero_le _⟩ [] rfl rfl (Nat.le_of_ble_eq_true rfl) dX0_after_4 (fun r_2 hr_2 => ?_)
  subst hr_2
  refine lv_istore_n (lv' := [(3, .int (iI ((z / 343) / 7))), (0, .ref fl), (1, .int (iI z)), (2, .int (iI d))]) hx hb dX0_after_7 rfl hl (by decide) rfl (fun ls hl => ?_)
  refine lv_iload_n hx hb dX0_after_8 rfl (lv_at hl 2 rfl) ?_
  refine zc_SN (As := [.int (iI z)]) (rest := []) (ws := [(fl, .inr (0, [.int (iI C), .int (iI R), .ref pn, .int (iI np)])), (pn, .inl (cI, 49, .inl (aI gn)))]) (n := 1) hx hb (hml.trans hl.1.symm) hts hown hK hP (c_X2_squareOf l D cI cJ z (by omega) (by omega)) q_103 q_102 q_1 (by decide +kernel) (by decide +kernel) rfl ⟨Nat.le_of_ble_eq_true rfl, Nat.le_of_ble_eq_true rfl⟩ ⟨Nat.zero_le _, Nat.zero_le _⟩ [] rfl rfl (Nat.le_of_ble_eq_true rfl) dX0_after_9 (fun r_3 hr_3 => ?_)
  subst hr_3
  refine zc_SN (As := [.int (iI (z / 343))]) (rest := []) (ws := [(fl, .inr (0, [.int (iI C), .int (iI R), .ref pn, .int (iI np)])), (pn, .inl (cI, 49, .inl (aI gn)))]) (n := 1) hx hb (hml.trans hl.1.symm) hts hown hK hP (c_X2_rowOf l D cI cJ (z / 343) (by omega) (by omega)) q_109 q_108 q_1 (by decide +kernel) (by decide +kernel) rfl ⟨Nat.le_of_ble_eq_true rfl, Nat.le_of_ble_eq_true rfl⟩ ⟨Nat.zero_le _, Nat.zero_le _⟩ [] rfl rfl (Nat.le_of_ble_eq_true rfl) dX0_after_12 (fun r_4 hr_4 => ?_)
  subst hr_4
  refine lv_istore (lv' := [(4, .int (iI ((z / 343) % 7))), (3, .int (iI ((z / 343) / 7))), (0, .ref fl), (1, .int (iI z)), (2, .int (iI d))]) hx hb dX0_after_15 hl (by decide) rfl (fun ls hl => ?_)
  refine lv_iload_n hx hb dX0_after_17 rfl (lv_at hl 4 rfl) ?_
  rcases (show d = 0 ∨ d = 1 ∨ d = 2 ∨ d = 3 by omega) with rfl | rfl | rfl | rfl
  · skip
    refine zv_tableIn (tgt := 48) hx hb dX0_after_18 ⟨by decide, by decide⟩ (by decide) (by decide) rfl (by decide) ?_
    refine lv_aload_n hx hb dX0_after_48 rfl (lv_at hl 2 rfl) ?_
    refine lv_iload_n hx hb dX0_after_49 rfl (lv_at hl 1 rfl) ?_
    refine lv_iload hx hb dX0_after_50 (lv_at hl 0 rfl) ?_
    refine zv_iconst hx hb dX0_after_52 ?_
    refine zv_isub hx hb dX0_after_53 ?_
    refine lv_iload_n hx hb dX0_after_54 rfl (lv_at hl 3 rfl) ?_
    refine zc_SN (As := [.int (iI z)]) (rest := [.int (iI ((z / 343) % 7 - 1)), .int (iI ((z / 343) / 7)), .ref fl]) (ws := [(fl, .inr (0, [.int (iI C), .int (iI R), .ref pn, .int (iI np)])), (pn, .inl (cI, 49, .inl (aI gn)))]) (n := 1) hx hb (hml.trans hl.1.symm) hts hown hK hP (c_X2_wordOf l D cI cJ z (by omega) (by omega)) q_112 q_111 q_1 (by decide +kernel) (by decide +kernel) rfl ⟨Nat.le_of_ble_eq_true rfl, Nat.le_of_ble_eq_true rfl⟩ ⟨Nat.zero_le _, Nat.zero_le _⟩ [] rfl rfl (Nat.le_of_ble_eq_true rfl) dX0_after_55 (fun r_5 hr_5 => ?_)
    subst hr_5
    refine zc_V (As := [.int (iI ((z / 343) / 7)), .int (iI ((z / 343) % 7 - 1)), .int (iI (z % 343))]) (rest := []) (ws := [(fl, .inr (0, [.int (iI C), .int (iI R), .ref pn, .int (iI np)])), (pn, .inl (cI, 49, .inl (aI gn)))]) (n := 3) hx hb (hml.trans hl.1.symm) hts hown hK hP (c_X0_placeAt l D cI cJ fl pn C R np gn N ((z / 343) / 7) ((z / 343) % 7 - 1) (z % 343) hF (by omega) (by omega) (by omega) (by omega) (by omega) (by omega)) (gd_V q_113 q_115 q_1002 q_3 q_116) (by decide +kernel) rfl ⟨Nat.le_of_ble_eq_true rfl, Nat.le_of_ble_eq_true rfl⟩ ⟨Nat.zero_le _, Nat.zero_le _⟩ [0, 1] rfl 0 (ci := 0) rfl rfl rfl rfl (Nat.le_of_ble_eq_true rfl) dX0_after_58 (fun r_6 hr_6 => ?_)
    subst hr_6
    exact PM_iret hx hb hr hlk dX0_after_61 (by first | rw [aftZ_0] | rw [aftZ_1] | rw [aftZ_2] | rw [aftZ_3])
  · skip
    refine zv_tableIn (tgt := 62) hx hb dX0_after_18 ⟨by decide, by decide⟩ (by decide) (by decide) rfl (by decide) ?_
    refine lv_aload_n hx hb dX0_after_62 rfl (lv_at hl 2 rfl) ?_
    refine lv_iload_n hx hb dX0_after_63 rfl (lv_at hl 1 rfl) ?_
    refine zv_iconst hx hb dX0_after_64 ?_
    refine zv_iadd hx hb dX0_after_65 ?_
    refine lv_iload hx hb dX0_after_66 (lv_at hl 0 rfl) ?_
    refine lv_aload_n hx hb dX0_after_68 rfl (lv_at hl 2 rfl) ?_
    refine lv_iload_n hx hb dX0_after_69 rfl (lv_at hl 3 rfl) ?_
    refine zc_SN (As := [.int (iI z)]) (rest := [.ref fl, .int (iI ((z / 343) % 7)), .int (iI ((z / 343) / 7 + 1)), .ref fl]) (ws := [(fl, .inr (0, [.int (iI C), .int (iI R), .ref pn, .int (iI np)])), (pn, .inl (cI, 49, .inl (aI gn)))]) (n := 1) hx hb (hml.trans hl.1.symm) hts hown hK hP (c_X2_wordOf l D cI cJ z (by omega) (by omega)) q_112 q_111 q_1 (by decide +kernel) (by decide +kernel) rfl ⟨Nat.le_of_ble_eq_true rfl, Nat.le_of_ble_eq_true rfl⟩ ⟨Nat.zero_le _, Nat.zero_le _⟩ [] rfl rfl (Nat.le_of_ble_eq_true rfl) dX0_after_70 (fun r_7 hr_7 => ?_)
    subst hr_7
    refine lv_iload_n hx hb dX0_after_73 rfl (lv_at hl 1 rfl) ?_
    refine lv_iload hx hb dX0_after_74 (lv_at hl 0 rfl) ?_
    refine zc_V (As := [.int (iI (z % 343)), .int (iI ((z / 343) / 7)), .int (iI ((z / 343) % 7))]) (rest := [.int (iI ((z / 343) % 7)), .int (iI ((z / 343) / 7 + 1)), .ref fl]) (ws := [(fl, .inr (0, [.int (iI C), .int (iI R), .ref pn, .int (iI np)])), (pn, .inl (cI, 49, .inl (aI gn)))]) (n := 3) hx hb (hml.trans hl.1.symm) hts hown hK hP (c_X0_wordToTheRight l D cI cJ fl pn C R np gn N (z % 343) ((z / 343) / 7) ((z / 343) % 7) hF (by omega) (by omega) (by omega) (by omega) (by omega) (by omega)) (gd_V q_131 q_133 q_1004 q_3 q_134) (by decide +kernel) rfl ⟨Nat.le_of_ble_eq_true rfl, Nat.le_of_ble_eq_true rfl⟩ ⟨Nat.zero_le _, Nat.zero_le _⟩ [0, 1] rfl 0 (ci := 0) rfl rfl rfl rfl (Nat.le_of_ble_eq_true rfl) dX0_after_76 (fun r_8 hr_8 => ?_)
    subst hr_8
    have hwb := wRZ_b hF (c := z / 343 / 7) (r := z / 343 % 7) (w := z % 343) (by omega) (by omega) (by omega)
    refine zc_V (As := [.int (iI ((z / 343) / 7 + 1)), .int (iI ((z / 343) % 7)), .int (iI (wRZ N R ((z / 343) / 7) ((z / 343) % 7) (z % 343)))]) (rest := []) (ws := [(fl, .inr (0, [.int (iI C), .int (iI R), .ref pn, .int (iI np)])), (pn, .inl (cI, 49, .inl (aI gn)))]) (n := 3) hx hb (hml.trans hl.1.symm) hts hown hK hP (c_X0_placeAt l D cI cJ fl pn C R np gn N ((z / 343) / 7 + 1) ((z / 343) % 7) (wRZ N R ((z / 343) / 7) ((z / 343) % 7) (z % 343)) hF (by omega) (by omega) (by omega) (by omega) (by omega) (by omega)) (gd_V q_113 q_115 q_1002 q_3 q_116) (by decide +kernel) rfl ⟨Nat.le_of_ble_eq_true rfl, Nat.le_of_ble_eq_true rfl⟩ ⟨Nat.zero_le _, Nat.zero_le _⟩ [0, 1] rfl 0 (ci := 0) rfl rfl rfl rfl (Nat.le_of_ble_eq_true rfl) dX0_after_79 (fun r_9 hr_9 => ?_)
    subst hr_9
    exact PM_iret hx hb hr hlk dX0_after_82 (by first | rw [aftZ_0] | rw [aftZ_1] | rw [aftZ_2] | rw [aftZ_3])
  · skip
    refine zv_tableIn (tgt := 83) hx hb dX0_after_18 ⟨by decide, by decide⟩ (by decide) (by decide) rfl (by decide) ?_
    refine lv_aload_n hx hb dX0_after_83 rfl (lv_at hl 2 rfl) ?_
    refine lv_iload_n hx hb dX0_after_84 rfl (lv_at hl 1 rfl) ?_
    refine lv_iload hx hb dX0_after_85 (lv_at hl 0 rfl) ?_
    refine zv_iconst hx hb dX0_after_87 ?_
    refine zv_iadd hx hb dX0_after_88 ?_
    refine lv_iload_n hx hb dX0_after_89 rfl (lv_at hl 3 rfl) ?_
    refine zc_SN (As := [.int (iI z)]) (rest := [.int (iI ((z / 343) % 7 + 1)), .int (iI ((z / 343) / 7)), .ref fl]) (ws := [(fl, .inr (0, [.int (iI C), .int (iI R), .ref pn, .int (iI np)])), (pn, .inl (cI, 49, .inl (aI gn)))]) (n := 1) hx hb (hml.trans hl.1.symm) hts hown hK hP (c_X2_wordOf l D cI cJ z (by omega) (by omega)) q_112 q_111 q_1 (by decide +kernel) (by decide +kernel) rfl ⟨Nat.le_of_ble_eq_true rfl, Nat.le_of_ble_eq_true rfl⟩ ⟨Nat.zero_le _, Nat.zero_le _⟩ [] rfl rfl (Nat.le_of_ble_eq_true rfl) dX0_after_90 (fun r_10 hr_10 => ?_)
    subst hr_10
    refine zc_V (As := [.int (iI ((z / 343) / 7)), .int (iI ((z / 343) % 7 + 1)), .int (iI (z % 343))]) (rest := []) (ws := [(fl, .inr (0, [.int (iI C), .int (iI R), .ref pn, .int (iI np)])), (pn, .inl (cI, 49, .inl (aI gn)))]) (n := 3) hx hb (hml.trans hl.1.symm) hts hown hK hP (c_X0_placeAt l D cI cJ fl pn C R np gn N ((z / 343) / 7) ((z / 343) % 7 + 1) (z % 343) hF (by omega) (by omega) (by omega) (by omega) (by omega) (by omega)) (gd_V q_113 q_115 q_1002 q_3 q_116) (by decide +kernel) rfl ⟨Nat.le_of_ble_eq_true rfl, Nat.le_of_ble_eq_true rfl⟩ ⟨Nat.zero_le _, Nat.zero_le _⟩ [0, 1] rfl 0 (ci := 0) rfl rfl rfl rfl (Nat.le_of_ble_eq_true rfl) dX0_after_93 (fun r_11 hr_11 => ?_)
    subst hr_11
    exact PM_iret hx hb hr hlk dX0_after_96 (by first | rw [aftZ_0] | rw [aftZ_1] | rw [aftZ_2] | rw [aftZ_3])
  · skip
    refine zv_tableIn (tgt := 97) hx hb dX0_after_18 ⟨by decide, by decide⟩ (by decide) (by decide) rfl (by decide) ?_
    refine lv_aload_n hx hb dX0_after_97 rfl (lv_at hl 2 rfl) ?_
    refine lv_iload_n hx hb dX0_after_98 rfl (lv_at hl 1 rfl) ?_
    refine zv_iconst hx hb dX0_after_99 ?_
    refine zv_isub hx hb dX0_after_100 ?_
    refine lv_iload hx hb dX0_after_101 (lv_at hl 0 rfl) ?_
    refine lv_aload_n hx hb dX0_after_103 rfl (lv_at hl 2 rfl) ?_
    refine lv_iload_n hx hb dX0_after_104 rfl (lv_at hl 3 rfl) ?_
    refine zc_SN (As := [.int (iI z)]) (rest := [.ref fl, .int (iI ((z / 343) % 7)), .int (iI ((z / 343) / 7 - 1)), .ref fl]) (ws := [(fl, .inr (0, [.int (iI C), .int (iI R), .ref pn, .int (iI np)])), (pn, .inl (cI, 49, .inl (aI gn)))]) (n := 1) hx hb (hml.trans hl.1.symm) hts hown hK hP (c_X2_wordOf l D cI cJ z (by omega) (by omega)) q_112 q_111 q_1 (by decide +kernel) (by decide +kernel) rfl ⟨Nat.le_of_ble_eq_true rfl, Nat.le_of_ble_eq_true rfl⟩ ⟨Nat.zero_le _, Nat.zero_le _⟩ [] rfl rfl (Nat.le_of_ble_eq_true rfl) dX0_after_105 (fun r_12 hr_12 => ?_)
    subst hr_12
    refine lv_iload_n hx hb dX0_after_108 rfl (lv_at hl 1 rfl) ?_
    refine zv_iconst hx hb dX0_after_109 ?_
    refine zv_isub hx hb dX0_after_110 ?_
    refine lv_iload hx hb dX0_after_111 (lv_at hl 0 rfl) ?_
    refine zc_V (As := [.int (iI (z % 343)), .int (iI ((z / 343) / 7 - 1)), .int (iI ((z / 343) % 7))]) (rest := [.int (iI ((z / 343) % 7)), .int (iI ((z / 343) / 7 - 1)), .ref fl]) (ws := [(fl, .inr (0, [.int (iI C), .int (iI R), .ref pn, .int (iI np)])), (pn, .inl (cI, 49, .inl (aI gn)))]) (n := 3) hx hb (hml.trans hl.1.symm) hts hown hK hP (c_X0_wordToTheLeft l D cI cJ fl pn C R np gn N (z % 343) ((z / 343) / 7 - 1) ((z / 343) % 7) hF (by omega) (by omega) (by omega) (by omega) (by omega) (by omega)) (gd_V q_144 q_146 q_1005 q_3 q_147) (by decide +kernel) rfl ⟨Nat.le_of_ble_eq_true rfl, Nat.le_of_ble_eq_true rfl⟩ ⟨Nat.zero_le _, Nat.zero_le _⟩ [0, 1] rfl 0 (ci := 0) rfl rfl rfl rfl (Nat.le_of_ble_eq_true rfl) dX0_after_113 (fun r_13 hr_13 => ?_)
    subst hr_13
    have hwb := wLZ_b hF (c := z / 343 / 7 - 1) (r := z / 343 % 7) (w := z % 343) (by omega) (by omega) (by omega)
    refine zc_V (As := [.int (iI ((z / 343) / 7 - 1)), .int (iI ((z / 343) % 7)), .int (iI (wLZ N R ((z / 343) / 7 - 1) ((z / 343) % 7) (z % 343)))]) (rest := []) (ws := [(fl, .inr (0, [.int (iI C), .int (iI R), .ref pn, .int (iI np)])), (pn, .inl (cI, 49, .inl (aI gn)))]) (n := 3) hx hb (hml.trans hl.1.symm) hts hown hK hP (c_X0_placeAt l D cI cJ fl pn C R np gn N ((z / 343) / 7 - 1) ((z / 343) % 7) (wLZ N R ((z / 343) / 7 - 1) ((z / 343) % 7) (z % 343)) hF (by omega) (by omega) (by omega) (by omega) (by omega) (by omega)) (gd_V q_113 q_115 q_1002 q_3 q_116) (by decide +kernel) rfl ⟨Nat.le_of_ble_eq_true rfl, Nat.le_of_ble_eq_true rfl⟩ ⟨Nat.zero_le _, Nat.zero_le _⟩ [0, 1] rfl 0 (ci := 0) rfl rfl rfl rfl (Nat.le_of_ble_eq_true rfl) dX0_after_116 (fun r_14 hr_14 => ?_)
    subst hr_14
    exact PM_iret hx hb hr hlk dX0_after_119 (by first | rw [aftZ_0] | rw [aftZ_1] | rw [aftZ_2] | rw [aftZ_3])
