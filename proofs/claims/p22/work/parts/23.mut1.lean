set_option maxRecDepth 100000 in
set_option maxHeartbeats 4000000 in
theorem c_J7_fill_53178 (l : Launch) (D : va_G) (cI cJ : ClassId) (fa fn : Nat) (fv : Int) (fg : Nat → Int) (hfn : fn < 1000000) (sz : Nat) : MMv l yJ7_fill_53178 (.code yJ7_fill_53178 cJ7_fill_53178 4 none) 0 0 0 [.ref fa, .int (iI fv)] D cI cJ [(fa, .inl (cI, fn, .inl (aI fg)))] sz (fun (u : (Nat → Int)) => ∀ k : Nat, k < fn → u k = fv) (fun u : (Nat → Int) => [(fa, .inl (cI, fn, .inl (aI u)))]) := by
  refine MM_of (Qc := fun A => QMv D A (fun (u : (Nat → Int)) => ∀ k : Nat, k < fn → u k = fv) (fun u : (Nat → Int) => [(fa, .inl (cI, fn, .inl (aI u)))])) (by decide) rfl (Nat.le_of_ble_eq_true rfl) (fun p e s m below meth c ls A hx hb hr hts hown hlk hml hin hK hP hD hA hS hl => ?_)
  have hl : lv_has ls 4 [(0, .ref fa), (1, .int (iI fv))] := hl
  refine zv_iconst hx hb dJ7_fill_53178_0 ?_
  refine lv_istore_n (lv' := [(2, .int (iI 0)), (0, .ref fa), (1, .int (iI fv))]) hx hb dJ7_fill_53178_1 rfl hl (by decide) rfl (fun ls hl => ?_)
  refine lv_aload_n hx hb dJ7_fill_53178_2 rfl (lv_at hl 1 rfl) ?_
  refine zv_alen hx hb hK.1 hP 0 0 rfl rfl dJ7_fill_53178_3 ?_
  refine lv_istore_n (lv' := [(3, .int (iI fn)), (2, .int (iI 0)), (0, .ref fa), (1, .int (iI fv))]) hx hb dJ7_fill_53178_4 rfl hl (by decide) rfl (fun ls hl => ?_)
  have loop5 : ∀ (nn : Nat) (i : Int) (f : Nat → Int), (0 ≤ i) → (i ≤ fn) → (∀ k : Nat, (k : Int) < i → f k = fv) → ((fn : Int) - i < (nn : Int)) → ∀ (H : Heap) (locs : List Loc), va_P D vwCl [(fa, .inl (cI, fn, .inl (aI f)))] H → va_D A [(fa, .inl (cI, fn, .inl (aI f)))] → va_S A s.heap H locs → ∀ ls : Array Slot, lv_has ls 4 [(0, .ref fa), (1, .int (iI fv)), (2, .int (iI i)), (3, .int (iI fn))] → W p l e (rmM 0 0 0) s m [.ref fa, .int (iI fv)].toArray below meth c H locs 0 0 (MQ below (QMv D A (fun (u : (Nat → Int)) => ∀ k : Nat, k < fn → u k = fv) (fun u : (Nat → Int) => [(fa, .inl (cI, fn, .inl (aI u)))])) [.ref fa, .int (iI fv)].toArray s 0 0 A) (F0 m 5 ls []) := by
    intro nn
    induction nn with
    | zero => intro i f hi0 hi1 hf hms; exfalso; omega
    | succ nn ih5 =>
      intro i f hi0 hi1 hf hms H locs hP hD hS ls hl
      refine lv_iload_n hx hb dJ7_fill_53178_5 rfl (lv_at hl 2 rfl) ?_
      refine lv_iload_n hx hb dJ7_fill_53178_6 rfl (lv_at hl 3 rfl) ?_
      refine zv_icmp_ge hx hb dJ7_fill_53178_7 (tgt := 20) (by decide) ⟨by omega, by omega⟩ ⟨by omega, by omega⟩ (fun c_1 => ?_) (fun c_1 => ?_)
      · exact MM_vret (f) hx hb hr hlk hP hD hS (Nat.le_of_ble_eq_true rfl) (Nat.le_of_ble_eq_true rfl) dJ7_fill_53178_20 (fun k hk => hf k (by omega))
      · refine lv_aload_n hx hb dJ7_fill_53178_10 rfl (lv_at hl 0 rfl) ?_
        refine lv_iload_n hx hb dJ7_fill_53178_11 rfl (lv_at hl 2 rfl) ?_
        refine lv_iload_n hx hb dJ7_fill_53178_12 rfl (lv_at hl 1 rfl) ?_
        refine zv_iast hx hb hK.1 hP hD hS 0 0 rfl rfl (by omega) (by omega) (by omega) (ws' := [(fa, .inl (cI, fn, .inl (aI (updZ f (i).toNat fv))))]) rfl dJ7_fill_53178_13 (fun H locs hP hD hS => ?_)
        refine zv_iinc (k := 2) (lv' := [(2, .int (iI (i + 1))), (0, .ref fa), (1, .int (iI fv)), (3, .int (iI fn))]) hx hb dJ7_fill_53178_14 hl rfl (by decide) rfl (fun ls hl => ?_)
        refine lv_goto (tgt := 5) hx hb dJ7_fill_53178_17 (by decide) ?_
        exact ih5 (i + 1) (updZ f (i).toNat fv) (by omega) (by omega) (updZ_to hf (by omega)) (by omega) _ _ hP hD hS ls (lv_sub hl [1, 2, 0, 3] rfl)
  exact loop5 (fn + 1) 0 fg (by omega) (by omega) (fun k hk => absurd hk (by omega)) (by omega) _ _ hP hD hS ls (lv_sub hl [2, 3, 1, 0] rfl)
set_option maxRecDepth 100000 in
set_option maxHeartbeats 4000000 in
theorem c_X1_add (l : Launch) (D : va_G) (cI cJ : ClassId) (sp da ra : Nat) (ct : Int) (g h : Nat → Int) (a x : Int) (ha1 : -1 ≤ a) (ha2 : a < 16807) (hc1 : 0 ≤ ct) (hc2 : a < 0 ∨ ct < 9163) (hc3 : ct ≤ 9163) (sz : Nat) : MMv l yX1_add (.code yX1_add cX1_add 3 none) 0 0 0 [.ref sp, .int (iI a), .int (iI x)] D cI cJ [(sp, .inr (1, [.ref da, .ref ra, .int (iI ct)])), (da, .inl (cI, 16807, .inl (aI g))), (ra, .inl (cI, 9163, .inl (aI h)))] sz (fun (u : (Nat → Int) × (Nat → Int) × Int) => (a < 0 ∧ u.1 = g ∧ u.2.1 = h ∧ u.2.2 = ct) ∨ (0 ≤ a ∧ u.1 = updZ g (a).toNat x ∧ u.2.1 = updZ h (ct).toNat a ∧ u.2.2 = ct + 1)) (fun u : (Nat → Int) × (Nat → Int) × Int => [(sp, .inr (1, [.ref da, .ref ra, .int (iI u.2.2)])), (da, .inl (cI, 16807, .inl (aI u.1))), (ra, .inl (cI, 9163, .inl (aI u.2.1)))]) := by
  refine MM_of (Qc := fun A => QMv D A (fun (u : (Nat → Int) × (Nat → Int) × Int) => (a < 0 ∧ u.1 = g ∧ u.2.1 = h ∧ u.2.2 = ct) ∨ (0 ≤ a ∧ u.1 = updZ g (a).toNat x ∧ u.2.1 = updZ h (ct).toNat a ∧ u.2.2 = ct + 1)) (fun u : (Nat → Int) × (Nat → Int) × Int => [(sp, .inr (1, [.ref da, .ref ra, .int (iI u.2.2)])), (da, .inl (cI, 16807, .inl (aI u.1))), (ra, .inl (cI, 9163, .inl (aI u.2.1)))])) (by decide) rfl (Nat.le_of_ble_eq_true rfl) (fun p e s m below meth c ls A hx hb hr hts hown hlk hml hin hK hP hD hA hS hl => ?_)
  have hl : lv_has ls 3 [(0, .ref sp), (1, .int (iI a)), (2, .int (iI x))] := hl
  refine lv_iload_n hx hb dX1_add_0 rfl (lv_at hl 1 rfl) ?_
  refine zv_if_lt hx hb dX1_add_1 (tgt := 59) (by decide) ⟨by omega, by omega⟩ (fun c_1 => ?_) (fun c_1 => ?_)
  · exact MM_vret (g, h, ct) hx hb hr hlk hP hD hS (Nat.le_of_ble_eq_true rfl) (Nat.le_of_ble_eq_true rfl) dX1_add_59 (by first | exact Or.inl ⟨by omega, rfl, rfl, rfl⟩ | exact Or.inr ⟨by omega, rfl, rfl, rfl⟩)
  · refine lv_iload_n hx hb dX1_add_4 rfl (lv_at hl 1 rfl) ?_
    refine lv_aload_n hx hb dX1_add_5 rfl (lv_at hl 0 rfl) ?_
    refine va_get (D := D) (ci := 1) (v := .ref da) (C := RX1) (T := TX1) (N := 3) hx hb hts uX1 hown hK.1 hP 0 rfl rfl 0 (by decide) (hts _ q_28) (fun _ h9 => h9) rfl dX1_add_6 ?_
    refine zv_alen hx hb hK.1 hP 1 0 rfl rfl dX1_add_9 ?_
    refine zv_icmp_ge hx hb dX1_add_10 (tgt := 59) (by decide) ⟨by omega, by omega⟩ ⟨by omega, by omega⟩ (fun c_2 => by exfalso; omega) (fun c_2 => ?_)
    refine lv_aload_n hx hb dX1_add_13 rfl (lv_at hl 0 rfl) ?_
    refine va_get (D := D) (ci := 1) (v := .int (iI ct)) (C := RX1) (T := TX1) (N := 3) hx hb hts uX1 hown hK.1 hP 0 rfl rfl 2 (by decide) (hts _ q_30) (fun _ h9 => h9) rfl dX1_add_14 ?_
    refine zv_if_lt hx hb dX1_add_17 (tgt := 59) (by decide) ⟨by omega, by omega⟩ (fun c_3 => by exfalso; omega) (fun c_3 => ?_)
    refine lv_aload_n hx hb dX1_add_20 rfl (lv_at hl 0 rfl) ?_
    refine va_get (D := D) (ci := 1) (v := .int (iI ct)) (C := RX1) (T := TX1) (N := 3) hx hb hts uX1 hown hK.1 hP 0 rfl rfl 2 (by decide) (hts _ q_30) (fun _ h9 => h9) rfl dX1_add_21 ?_
    refine lv_aload_n hx hb dX1_add_24 rfl (lv_at hl 0 rfl) ?_
    refine va_get (D := D) (ci := 1) (v := .ref ra) (C := RX1) (T := TX1) (N := 3) hx hb hts uX1 hown hK.1 hP 0 rfl rfl 1 (by decide) (hts _ q_29) (fun _ h9 => h9) rfl dX1_add_25 ?_
    refine zv_alen hx hb hK.1 hP 2 0 rfl rfl dX1_add_28 ?_
    refine zv_icmp_ge hx hb dX1_add_29 (tgt := 59) (by decide) ⟨by omega, by omega⟩ ⟨by omega, by omega⟩ (fun c_4 => by exfalso; omega) (fun c_4 => ?_)
    refine lv_aload_n hx hb dX1_add_32 rfl (lv_at hl 0 rfl) ?_
    refine va_get (D := D) (ci := 1) (v := .ref da) (C := RX1) (T := TX1) (N := 3) hx hb hts uX1 hown hK.1 hP 0 rfl rfl 0 (by decide) (hts _ q_28) (fun _ h9 => h9) rfl dX1_add_33 ?_
    refine lv_iload_n hx hb dX1_add_36 rfl (lv_at hl 1 rfl) ?_
    refine lv_iload_n hx hb dX1_add_37 rfl (lv_at hl 2 rfl) ?_
    refine zv_iast hx hb hK.1 hP hD hS 1 0 rfl rfl (by omega) (by omega) (by omega) (ws' := [(sp, .inr (1, [.ref da, .ref ra, .int (iI ct)])), (da, .inl (cI, 16807, .inl (aI (updZ g (a).toNat x)))), (ra, .inl (cI, 9163, .inl (aI h)))]) rfl dX1_add_38 (fun H locs hP hD hS => ?_)
    refine lv_aload_n hx hb dX1_add_39 rfl (lv_at hl 0 rfl) ?_
    refine va_get (D := D) (ci := 1) (v := .ref ra) (C := RX1) (T := TX1) (N := 3) hx hb hts uX1 hown hK.1 hP 0 rfl rfl 1 (by decide) (hts _ q_29) (fun _ h9 => h9) rfl dX1_add_40 ?_
    refine lv_aload_n hx hb dX1_add_43 rfl (lv_at hl 0 rfl) ?_
    refine va_get (D := D) (ci := 1) (v := .int (iI ct)) (C := RX1) (T := TX1) (N := 3) hx hb hts uX1 hown hK.1 hP 0 rfl rfl 2 (by decide) (hts _ q_30) (fun _ h9 => h9) rfl dX1_add_44 ?_
    refine lv_iload_n hx hb dX1_add_47 rfl (lv_at hl 1 rfl) ?_
    refine zv_iast hx hb hK.1 hP hD hS 2 0 rfl rfl (by omega) (by omega) (by omega) (ws' := [(sp, .inr (1, [.ref da, .ref ra, .int (iI ct)])), (da, .inl (cI, 16807, .inl (aI (updZ g (a).toNat x)))), (ra, .inl (cI, 9163, .inl (aI (updZ h (ct).toNat a))))]) rfl dX1_add_48 (fun H locs hP hD hS => ?_)
    refine lv_aload_n hx hb dX1_add_49 rfl (lv_at hl 0 rfl) ?_
    refine lv_dup hx hb dX1_add_50 rfl ?_
    refine va_get (D := D) (ci := 1) (v := .int (iI ct)) (C := RX1) (T := TX1) (N := 3) hx hb hts uX1 hown hK.1 hP 0 rfl rfl 2 (by decide) (hts _ q_30) (fun _ h9 => h9) rfl dX1_add_51 ?_
    refine zv_iconst hx hb dX1_add_54 ?_
    refine zv_iadd hx hb dX1_add_55 ?_
    refine va_put (D := D) (ci := 1) (v := .int (iI (ct + 1))) (ty := .int) (C := RX1) (T := TX1) (N := 3) hx hb hts uX1 tyX1 tyX1_ok nmX1 hown hK.1 hP hD hS 0 rfl rfl 2 (by decide) (hts _ q_30) (fun _ h9 => h9) rfl (by decide +kernel) rfl rfl (Nat.le_of_ble_eq_true rfl) dX1_add_56 (fun H locs hP hD hS => ?_)
    have hP : va_P D vwCl [(sp, .inr (1, [.ref da, .ref ra, .int (iI (ct + 1))])), (da, .inl (cI, 16807, .inl (aI (updZ g (a).toNat x)))), (ra, .inl (cI, 9163, .inl (aI (updZ h (ct).toNat a))))] H := hP
    have hD : va_D A [(sp, .inr (1, [.ref da, .ref ra, .int (iI (ct + 1))])), (da, .inl (cI, 16807, .inl (aI (updZ g (a).toNat x)))), (ra, .inl (cI, 9163, .inl (aI (updZ h (ct).toNat a))))] := hD
    exact MM_vret ((updZ g (a).toNat x), (updZ h (ct).toNat a), (ct + 1)) hx hb hr hlk hP hD hS (Nat.le_of_ble_eq_true rfl) (Nat.le_of_ble_eq_true rfl) dX1_add_59 (by first | exact Or.inl ⟨by omega, rfl, rfl, rfl⟩ | exact Or.inr ⟨by omega, rfl, rfl, rfl⟩)
set_option maxRecDepth 100000 in
set_option maxHeartbeats 4000000 in
theorem c_X1_reach (l : Launch) (D : va_G) (cI cJ : ClassId) (sp da ra : Nat) (ct : Int) (g h : Nat → Int) (a f : Int) (S : BS) (hsp : SpOK S g h ct) (ha1 : -1 ≤ a) (ha2 : a < 16807) (hf0 : 0 ≤ f) (hf1 : f < 16807) (hfD : 0 ≤ S.2.1 f) (hfE : S.2.1 f < 19999) (hln : (bsR S a f).1.length ≤ 9163) (sz : Nat) : MMv l yX1_reach (.code yX1_reach cX1_reach 3 none) 1 0 0 [.ref sp, .int (iI a), .int (iI f)] D cI cJ [(sp, .inr (1, [.ref da, .ref ra, .int (iI ct)])), (da, .inl (cI, 16807, .inl (aI g))), (ra, .inl (cI, 9163, .inl (aI h)))] sz (fun (u : (Nat → Int) × (Nat → Int) × Int) => SpOK (bsR S a f) u.1 u.2.1 u.2.2) (fun u : (Nat → Int) × (Nat → Int) × Int => [(sp, .inr (1, [.ref da, .ref ra, .int (iI u.2.2)])), (da, .inl (cI, 16807, .inl (aI u.1))), (ra, .inl (cI, 9163, .inl (aI u.2.1)))]) := by
  have hL := hsp.1
  have hLa := hL.b a
  obtain ⟨-, hct, hln0, -⟩ := id hsp
  refine MM_of (Qc := fun A => QMv D A (fun (u : (Nat → Int) × (Nat → Int) × Int) => SpOK (bsR S a f) u.1 u.2.1 u.2.2) (fun u : (Nat → Int) × (Nat → Int) × Int => [(sp, .inr (1, [.ref da, .ref ra, .int (iI u.2.2)])), (da, .inl (cI, 16807, .inl (aI u.1))), (ra, .inl (cI, 9163, .inl (aI u.2.1)))])) (by decide) rfl (Nat.le_of_ble_eq_true rfl) (fun p e s m below meth c ls A hx hb hr hts hown hlk hml hin hK hP hD hA hS hl => ?_)
  have hl : lv_has ls 3 [(0, .ref sp), (1, .int (iI a)), (2, .int (iI f))] := hl
  refine lv_aload_n hx hb dX1_reach_0 rfl (lv_at hl 0 rfl) ?_
  refine lv_iload_n hx hb dX1_reach_1 rfl (lv_at hl 1 rfl) ?_
  refine zc_V (As := [.int (iI a)]) (rest := []) (ws := [(sp, .inr (1, [.ref da, .ref ra, .int (iI ct)])), (da, .inl (cI, 16807, .inl (aI g))), (ra, .inl (cI, 9163, .inl (aI h)))]) (n := 1) hx hb (hml.trans hl.1.symm) hts hown hK hP (c_X1_distanceOf l D cI cJ sp da ra ct g S.2.1 a hL (by omega) (by omega)) (gd_V q_153 q_154 q_155 q_2 q_156) (by decide +kernel) rfl ⟨Nat.le_of_ble_eq_true rfl, Nat.le_of_ble_eq_true rfl⟩ ⟨Nat.le_of_ble_eq_true rfl, Nat.le_of_ble_eq_true rfl⟩ [0, 1] rfl 0 (ci := 1) rfl rfl rfl rfl (Nat.le_of_ble_eq_true rfl) dX1_reach_2 (fun r_1 hr_1 => ?_)
  subst r_1
  refine zv_iconst hx hb dX1_reach_5 ?_
  refine zv_icmp_ne hx hb dX1_reach_6 (tgt := 21) (by decide) ⟨by omega, by omega⟩ ⟨by omega, by omega⟩ (fun c_2 => ?_) (fun c_2 => ?_)
  · exact MM_vret (g, h, ct) hx hb hr hlk hP hD hS (Nat.le_of_ble_eq_true rfl) (Nat.le_of_ble_eq_true rfl) dX1_reach_21 (by rw [bsR_no (by omega)]; exact hsp)
  · have hcl : a < 0 ∨ ct < 9163 := by
      by_cases h9 : a < 0
      · exact Or.inl h9
      · have := (bsAt_push (S := S) (q := a) (f := f) ⟨by omega, by assumption⟩).2.2
        right; omega
    refine lv_aload_n hx hb dX1_reach_9 rfl (lv_at hl 0 rfl) ?_
    refine lv_iload_n hx hb dX1_reach_10 rfl (lv_at hl 1 rfl) ?_
    refine lv_aload_n hx hb dX1_reach_11 rfl (lv_at hl 0 rfl) ?_
    refine lv_iload_n hx hb dX1_reach_12 rfl (lv_at hl 2 rfl) ?_
    refine zc_V (As := [.int (iI f)]) (rest := [.int (iI a), .ref sp]) (ws := [(sp, .inr (1, [.ref da, .ref ra, .int (iI ct)])), (da, .inl (cI, 16807, .inl (aI g))), (ra, .inl (cI, 9163, .inl (aI h)))]) (n := 1) hx hb (hml.trans hl.1.symm) hts hown hK hP (c_X1_distanceOf l D cI cJ sp da ra ct g S.2.1 f hL (by omega) (by omega)) (gd_V q_153 q_154 q_155 q_2 q_156) (by decide +kernel) rfl ⟨Nat.le_of_ble_eq_true rfl, Nat.le_of_ble_eq_true rfl⟩ ⟨Nat.le_of_ble_eq_true rfl, Nat.le_of_ble_eq_true rfl⟩ [0, 1] rfl 0 (ci := 1) rfl rfl rfl rfl (Nat.le_of_ble_eq_true rfl) dX1_reach_13 (fun r_3 hr_3 => ?_)
    subst r_3
    refine zv_iconst hx hb dX1_reach_16 ?_
    refine zv_iadd hx hb dX1_reach_17 ?_
    refine zm_Vv (As := [.int (iI a), .int (iI (S.2.1 f + 1))]) (rest := []) (ws := [(sp, .inr (1, [.ref da, .ref ra, .int (iI ct)])), (da, .inl (cI, 16807, .inl (aI g))), (ra, .inl (cI, 9163, .inl (aI h)))]) (wr := []) (n := 2) hx hb (hml.trans hl.1.symm) hts hown hK hP hD hS hA (c_X1_add l D cI cJ sp da ra ct g h a (S.2.1 f + 1) (by omega) (by omega) (by omega) (by omega) (by omega) _) (gd_V q_85 q_87 q_1001 q_2 q_88) (by decide +kernel) rfl ⟨Nat.le_of_ble_eq_true rfl, Nat.le_of_ble_eq_true rfl⟩ ⟨Nat.le_of_ble_eq_true rfl, Nat.le_of_ble_eq_true rfl⟩ [0, 1, 2] [] rfl rfl (by decide) (by decide) (by decide) 0 (ci := 1) rfl rfl rfl rfl (Nat.le_of_ble_eq_true rfl) dX1_reach_18 (fun u H locs hq_4 hP hD hS => ?_)
    obtain ⟨g9, h9, c9⟩ := u
    have hP := hP.sub (ws' := [(sp, .inr (1, [.ref da, .ref ra, .int (iI c9)])), (da, .inl (cI, 16807, .inl (aI g9))), (ra, .inl (cI, 9163, .inl (aI h9)))]) [0, 1, 2] rfl
    have hD := hD.sub (ws' := [(sp, .inr (1, [.ref da, .ref ra, .int (iI c9)])), (da, .inl (cI, 16807, .inl (aI g9))), (ra, .inl (cI, 9163, .inl (aI h9)))]) [0, 1, 2] (by decide) rfl
    try dsimp only at hq_4
    have hadd := hq_4
    exact MM_vret (g9, h9, c9) hx hb hr hlk hP hD hS (Nat.le_of_ble_eq_true rfl) (Nat.le_of_ble_eq_true rfl) dX1_reach_21 (by rcases hadd with ⟨q1, rfl, rfl, rfl⟩ | ⟨q1, rfl, rfl, rfl⟩ <;> first | (rw [bsR_no (by omega)]; exact hsp) | exact SpOK_R hsp ⟨by omega, by assumption⟩ (by omega) (by omega) hfD hfE hln)
set_option maxRecDepth 100000 in
set_option maxHeartbeats 4000000 in
theorem c_X1_begin (l : Launch) (D : va_G) (cI cJ : ClassId) (sp da ra : Nat) (ct : Int) (g h : Nat → Int) (a : Int) (ha0 : 0 ≤ a) (ha1 : a < 16807) (sz : Nat) : MMv l yX1_begin (.code yX1_begin cX1_begin 2 none) 1 0 0 [.ref sp, .int (iI a)] D cI cJ [(sp, .inr (1, [.ref da, .ref ra, .int (iI ct)])), (da, .inl (cI, 16807, .inl (aI g))), (ra, .inl (cI, 9163, .inl (aI h)))] sz (fun (u : (Nat → Int) × (Nat → Int) × Int) => SpOK (bs0 a) u.1 u.2.1 u.2.2) (fun u : (Nat → Int) × (Nat → Int) × Int => [(sp, .inr (1, [.ref da, .ref ra, .int (iI u.2.2)])), (da, .inl (cI, 16807, .inl (aI u.1))), (ra, .inl (cI, 9163, .inl (aI u.2.1)))]) := by
  refine MM_of (Qc := fun A => QMv D A (fun (u : (Nat → Int) × (Nat → Int) × Int) => SpOK (bs0 a) u.1 u.2.1 u.2.2) (fun u : (Nat → Int) × (Nat → Int) × Int => [(sp, .inr (1, [.ref da, .ref ra, .int (iI u.2.2)])), (da, .inl (cI, 16807, .inl (aI u.1))), (ra, .inl (cI, 9163, .inl (aI u.2.1)))])) (by decide) rfl (Nat.le_of_ble_eq_true rfl) (fun p e s m below meth c ls A hx hb hr hts hown hlk hml hin hK hP hD hA hS hl => ?_)
  have hl : lv_has ls 2 [(0, .ref sp), (1, .int (iI a))] := hl
  refine lv_aload_n hx hb dX1_begin_0 rfl (lv_at hl 0 rfl) ?_
  refine va_get (D := D) (ci := 1) (v := .ref da) (C := RX1) (T := TX1) (N := 3) hx hb hts uX1 hown hK.1 hP 0 rfl rfl 0 (by decide) (hts _ q_28) (fun _ h9 => h9) rfl dX1_begin_1 ?_
  refine zv_iconst hx hb dX1_begin_4 ?_
  refine zm_Sv (As := [.ref da, .int (iI (-1))]) (rest := []) (ws := [(sp, .inr (1, [.ref da, .ref ra, .int (iI ct)])), (da, .inl (cI, 16807, .inl (aI g))), (ra, .inl (cI, 9163, .inl (aI h)))]) (wr := [(sp, .inr (1, [.ref da, .ref ra, .int (iI ct)])), (ra, .inl (cI, 9163, .inl (aI h)))]) (n := 2) hx hb (hml.trans hl.1.symm) hts hown hK hP hD hS hA (c_J7_fill_53178 l D cI cJ da 16807 (-1) g (Nat.le_of_ble_eq_true rfl) _) (gd_vaS q_84 q_55 q_5 q_56) (by decide +kernel) rfl ⟨Nat.le_of_ble_eq_true rfl, Nat.le_of_ble_eq_true rfl⟩ ⟨Nat.le_of_ble_eq_true rfl, Nat.le_of_ble_eq_true rfl⟩ [1] [0, 2] rfl rfl (by decide) (by decide) (by decide) rfl (Nat.le_of_ble_eq_true rfl) dX1_begin_5 (fun u H locs hq_1 hP hD hS => ?_)
  obtain ⟨g8, rfl⟩ : ∃ z, z = u := ⟨_, rfl⟩
  have hP := hP.sub (ws' := [(sp, .inr (1, [.ref da, .ref ra, .int (iI ct)])), (da, .inl (cI, 16807, .inl (aI g8))), (ra, .inl (cI, 9163, .inl (aI h)))]) [0, 2, 1] rfl
  have hD := hD.sub (ws' := [(sp, .inr (1, [.ref da, .ref ra, .int (iI ct)])), (da, .inl (cI, 16807, .inl (aI g8))), (ra, .inl (cI, 9163, .inl (aI h)))]) [0, 2, 1] (by decide) rfl
  try dsimp only at hq_1
  have hfill := hq_1
  refine lv_aload_n hx hb dX1_begin_8 rfl (lv_at hl 0 rfl) ?_
  refine zv_iconst hx hb dX1_begin_9 ?_
  refine va_put (D := D) (ci := 1) (v := .int (iI 0)) (ty := .int) (C := RX1) (T := TX1) (N := 3) hx hb hts uX1 tyX1 tyX1_ok nmX1 hown hK.1 hP hD hS 0 rfl rfl 2 (by decide) (hts _ q_30) (fun _ h9 => h9) rfl (by decide +kernel) rfl rfl (Nat.le_of_ble_eq_true rfl) dX1_begin_10 (fun H locs hP hD hS => ?_)
  have hP : va_P D vwCl [(sp, .inr (1, [.ref da, .ref ra, .int (iI 0)])), (da, .inl (cI, 16807, .inl (aI g8))), (ra, .inl (cI, 9163, .inl (aI h)))] H := hP
  have hD : va_D A [(sp, .inr (1, [.ref da, .ref ra, .int (iI 0)])), (da, .inl (cI, 16807, .inl (aI g8))), (ra, .inl (cI, 9163, .inl (aI h)))] := hD
  refine lv_aload_n hx hb dX1_begin_13 rfl (lv_at hl 0 rfl) ?_
  refine lv_iload_n hx hb dX1_begin_14 rfl (lv_at hl 1 rfl) ?_
  refine zv_iconst hx hb dX1_begin_15 ?_
  refine zm_Vv (As := [.int (iI a), .int (iI 0)]) (rest := []) (ws := [(sp, .inr (1, [.ref da, .ref ra, .int (iI 0)])), (da, .inl (cI, 16807, .inl (aI g8))), (ra, .inl (cI, 9163, .inl (aI h)))]) (wr := []) (n := 2) hx hb (hml.trans hl.1.symm) hts hown hK hP hD hS hA (c_X1_add l D cI cJ sp da ra 0 g8 h a 0 (by omega) (by omega) (by omega) (by omega) (by omega) _) (gd_V q_85 q_87 q_1001 q_2 q_88) (by decide +kernel) rfl ⟨Nat.le_of_ble_eq_true rfl, Nat.le_of_ble_eq_true rfl⟩ ⟨Nat.le_of_ble_eq_true rfl, Nat.le_of_ble_eq_true rfl⟩ [0, 1, 2] [] rfl rfl (by decide) (by decide) (by decide) 0 (ci := 1) rfl rfl rfl rfl (Nat.le_of_ble_eq_true rfl) dX1_begin_16 (fun u H locs hq_3 hP hD hS => ?_)
  obtain ⟨g9, h9, c9⟩ := u
  have hP := hP.sub (ws' := [(sp, .inr (1, [.ref da, .ref ra, .int (iI c9)])), (da, .inl (cI, 16807, .inl (aI g9))), (ra, .inl (cI, 9163, .inl (aI h9)))]) [0, 1, 2] rfl
  have hD := hD.sub (ws' := [(sp, .inr (1, [.ref da, .ref ra, .int (iI c9)])), (da, .inl (cI, 16807, .inl (aI g9))), (ra, .inl (cI, 9163, .inl (aI h9)))]) [0, 1, 2] (by decide) rfl
  try dsimp only at hq_3
  have hadd := hq_3
  exact MM_vret (g9, h9, c9) hx hb hr hlk hP hD hS (Nat.le_of_ble_eq_true rfl) (Nat.le_of_ble_eq_true rfl) dX1_begin_19 (by rcases hadd with ⟨q1, -⟩ | ⟨-, rfl, rfl, rfl⟩ <;> first | (exfalso; omega) | exact SpOK_0 ha0 ha1 hfill)
set_option maxRecDepth 100000 in
set_option maxHeartbeats 4000000 in
theorem c_X2_measureLengths (l : Launch) (D : va_G) (cI cJ : ClassId) (tt fl s1 s2 pn d1 r1 : Nat) (lim bs P sm C R np c1 : Int) (gn g1 h1 : Nat → Int) (N : Int → Int) (hF : FlOK C R np N gn) (hbs : GdZ C R N (bs * 343)) (sz : Nat) : MMv l yX2_measureLengths (.code yX2_measureLengths cX2_measureLengths 4 none) 5 0 0 [.ref tt] D cI cJ [(tt, .inr (2, [.ref fl, .int (iI lim), .ref s1, .ref s2, .int (iI bs), .int (iI P), .int (iI sm)])), (fl, .inr (0, [.int (iI C), .int (iI R), .ref pn, .int (iI np)])), (pn, .inl (cI, 49, .inl (aI gn))), (s1, .inr (1, [.ref d1, .ref r1, .int (iI c1)])), (d1, .inl (cI, 16807, .inl (aI g1))), (r1, .inl (cI, 9163, .inl (aI h1)))] sz (fun (u : (Nat → Int) × (Nat → Int) × Int) => SpOK (BF (aftZ C R N) (bs * 343)) u.1 u.2.1 u.2.2) (fun u : (Nat → Int) × (Nat → Int) × Int => [(tt, .inr (2, [.ref fl, .int (iI lim), .ref s1, .ref s2, .int (iI bs), .int (iI P), .int (iI sm)])), (fl, .inr (0, [.int (iI C), .int (iI R), .ref pn, .int (iI np)])), (pn, .inl (cI, 49, .inl (aI gn))), (s1, .inr (1, [.ref d1, .ref r1, .int (iI u.2.2)])), (d1, .inl (cI, 16807, .inl (aI u.1))), (r1, .inl (cI, 9163, .inl (aI u.2.1)))]) := by
  obtain ⟨hC1, hC2, hR1, hR2, hp1, hp2, -, -⟩ := id hF
  obtain ⟨hb0, hb1, -, -, -, -⟩ := id hbs
  have hgd : ∀ z d : Int, 0 ≤ d → d ≤ 3 → GdZ C R N z → aftZ C R N z d ≠ -1 → GdZ C R N (aftZ C R N z d) := fun z d k1 k2 k3 k4 => (aftZ_back hF k3 k1 k2 k4).1
  refine MM_of (Qc := fun A => QMv D A (fun (u : (Nat → Int) × (Nat → Int) × Int) => SpOK (BF (aftZ C R N) (bs * 343)) u.1 u.2.1 u.2.2) (fun u : (Nat → Int) × (Nat → Int) × Int => [(tt, .inr (2, [.ref fl, .int (iI lim), .ref s1, .ref s2, .int (iI bs), .int (iI P), .int (iI sm)])), (fl, .inr (0, [.int (iI C), .int (iI R), .ref pn, .int (iI np)])), (pn, .inl (cI, 49, .inl (aI gn))), (s1, .inr (1, [.ref d1, .ref r1, .int (iI u.2.2)])), (d1, .inl (cI, 16807, .inl (aI u.1))), (r1, .inl (cI, 9163, .inl (aI u.2.1)))])) (by decide) rfl (Nat.le_of_ble_eq_true rfl) (fun p e s m below meth c ls A hx hb hr hts hown hlk hml hin hK hP hD hA hS hl => ?_)
  have hl : lv_has ls 4 [(0, .ref tt)] := hl
  refine lv_aload_n hx hb dX2_measureLengths_0 rfl (lv_at hl 0 rfl) ?_
  refine va_get (D := D) (ci := 2) (v := .ref s1) (C := RX2) (T := TX2) (N := 7) hx hb hts uX2 hown hK.1 hP 0 rfl rfl 2 (by decide) (hts _ q_159) (fun _ h9 => h9) rfl dX2_measureLengths_1 ?_
  refine lv_aload_n hx hb dX2_measureLengths_4 rfl (lv_at hl 0 rfl) ?_
  refine va_get (D := D) (ci := 2) (v := .int (iI bs)) (C := RX2) (T := TX2) (N := 7) hx hb hts uX2 hown hK.1 hP 0 rfl rfl 4 (by decide) (hts _ q_161) (fun _ h9 => h9) rfl dX2_measureLengths_5 ?_
  refine zv_iconst hx hb dX2_measureLengths_8 ?_
  refine zc_S (As := [.int (iI bs), .int (iI 0)]) (rest := [.ref s1]) (ws := [(tt, .inr (2, [.ref fl, .int (iI lim), .ref s1, .ref s2, .int (iI bs), .int (iI P), .int (iI sm)])), (fl, .inr (0, [.int (iI C), .int (iI R), .ref pn, .int (iI np)])), (pn, .inl (cI, 49, .inl (aI gn))), (s1, .inr (1, [.ref d1, .ref r1, .int (iI c1)])), (d1, .inl (cI, 16807, .inl (aI g1))), (r1, .inl (cI, 9163, .inl (aI h1)))]) (n := 2) hx hb (hml.trans hl.1.symm) hts hown hK hP (c_X2_placeOf l D cI cJ bs 0) (gd_S q_73 q_74 q_1 q_75) (by decide +kernel) rfl ⟨Nat.le_of_ble_eq_true rfl, Nat.le_of_ble_eq_true rfl⟩ ⟨Nat.le_of_ble_eq_true rfl, Nat.le_of_ble_eq_true rfl⟩ [] rfl rfl (Nat.le_of_ble_eq_true rfl) dX2_measureLengths_9 (fun r_1 hr_1 => ?_)
  subst r_1
  refine zm_Vv (As := [.int (iI (bs * 343 + 0))]) (rest := []) (ws := [(tt, .inr (2, [.ref fl, .int (iI lim), .ref s1, .ref s2, .int (iI bs), .int (iI P), .int (iI sm)])), (fl, .inr (0, [.int (iI C), .int (iI R), .ref pn, .int (iI np)])), (pn, .inl (cI, 49, .inl (aI gn))), (s1, .inr (1, [.ref d1, .ref r1, .int (iI c1)])), (d1, .inl (cI, 16807, .inl (aI g1))), (r1, .inl (cI, 9163, .inl (aI h1)))]) (wr := [(tt, .inr (2, [.ref fl, .int (iI lim), .ref s1, .ref s2, .int (iI bs), .int (iI P), .int (iI sm)])), (fl, .inr (0, [.int (iI C), .int (iI R), .ref pn, .int (iI np)])), (pn, .inl (cI, 49, .inl (aI gn)))]) (n := 1) hx hb (hml.trans hl.1.symm) hts hown hK hP hD hS hA (c_X1_begin l D cI cJ s1 d1 r1 c1 g1 h1 (bs * 343 + 0) (by omega) (by omega) _) (gd_V q_80 q_81 q_82 q_2 q_83) (by decide +kernel) rfl ⟨Nat.le_of_ble_eq_true rfl, Nat.le_of_ble_eq_true rfl⟩ ⟨Nat.le_of_ble_eq_true rfl, Nat.le_of_ble_eq_true rfl⟩ [3, 4, 5] [0, 1, 2] rfl rfl (by decide) (by decide) (by decide) 3 (ci := 1) rfl rfl rfl rfl (Nat.le_of_ble_eq_true rfl) dX2_measureLengths_12 (fun u H locs hq_2 hP hD hS => ?_)
  obtain ⟨g0, h0, c0⟩ := u
  have hP := hP.sub (ws' := [(tt, .inr (2, [.ref fl, .int (iI lim), .ref s1, .ref s2, .int (iI bs), .int (iI P), .int (iI sm)])), (fl, .inr (0, [.int (iI C), .int (iI R), .ref pn, .int (iI np)])), (pn, .inl (cI, 49, .inl (aI gn))), (s1, .inr (1, [.ref d1, .ref r1, .int (iI c0)])), (d1, .inl (cI, 16807, .inl (aI g0))), (r1, .inl (cI, 9163, .inl (aI h0)))]) [0, 1, 2, 3, 4, 5] rfl
  have hD := hD.sub (ws' := [(tt, .inr (2, [.ref fl, .int (iI lim), .ref s1, .ref s2, .int (iI bs), .int (iI P), .int (iI sm)])), (fl, .inr (0, [.int (iI C), .int (iI R), .ref pn, .int (iI np)])), (pn, .inl (cI, 49, .inl (aI gn))), (s1, .inr (1, [.ref d1, .ref r1, .int (iI c0)])), (d1, .inl (cI, 16807, .inl (aI g0))), (r1, .inl (cI, 9163, .inl (aI h0)))]) [0, 1, 2, 3, 4, 5] (by decide) rfl
  try dsimp only at hq_2
  have hbg : SpOK (bs0 (bs * 343)) g0 h0 c0 := by rw [show bs * 343 + 0 = bs * 343 by omega] at hq_2; exact hq_2
  refine zv_iconst hx hb dX2_measureLengths_15 ?_
  refine lv_istore_n (lv' := [(1, .int (iI 0)), (0, .ref tt)]) hx hb dX2_measureLengths_16 rfl hl (by decide) rfl (fun ls hl => ?_)
  have loop17 : ∀ (nn : Nat) (i : Int) (S : BS) (g : Nat → Int) (h : Nat → Int) (ct : Int), (0 ≤ i) → (i ≤ 16807) → (bsG (aftZ C R N) (16807 - i.toNat) i.toNat S = BF (aftZ C R N) (bs * 343)) → (BI (aftZ C R N) (bs * 343) (GdZ C R N) S i.toNat 0) → (SpOK S g h ct) → (∀ z, S.2.1 z < (S.1.length : Int)) → (16807 - i < (nn : Int)) → ∀ (H : Heap) (locs : List Loc), va_P D vwCl [(tt, .inr (2, [.ref fl, .int (iI lim), .ref s1, .ref s2, .int (iI bs), .int (iI P), .int (iI sm)])), (fl, .inr (0, [.int (iI C), .int (iI R), .ref pn, .int (iI np)])), (pn, .inl (cI, 49, .inl (aI gn))), (s1, .inr (1, [.ref d1, .ref r1, .int (iI ct)])), (d1, .inl (cI, 16807, .inl (aI g))), (r1, .inl (cI, 9163, .inl (aI h)))] H → va_D A [(tt, .inr (2, [.ref fl, .int (iI lim), .ref s1, .ref s2, .int (iI bs), .int (iI P), .int (iI sm)])), (fl, .inr (0, [.int (iI C), .int (iI R), .ref pn, .int (iI np)])), (pn, .inl (cI, 49, .inl (aI gn))), (s1, .inr (1, [.ref d1, .ref r1, .int (iI ct)])), (d1, .inl (cI, 16807, .inl (aI g))), (r1, .inl (cI, 9163, .inl (aI h)))] → va_S A s.heap H locs → ∀ ls : Array Slot, lv_has ls 4 [(0, .ref tt), (1, .int (iI i))] → W p l e (rmM 5 0 0) s m [.ref tt].toArray below meth c H locs 0 0 (MQ below (QMv D A (fun (u : (Nat → Int) × (Nat → Int) × Int) => SpOK (BF (aftZ C R N) (bs * 343)) u.1 u.2.1 u.2.2) (fun u : (Nat → Int) × (Nat → Int) × Int => [(tt, .inr (2, [.ref fl, .int (iI lim), .ref s1, .ref s2, .int (iI bs), .int (iI P), .int (iI sm)])), (fl, .inr (0, [.int (iI C), .int (iI R), .ref pn, .int (iI np)])), (pn, .inl (cI, 49, .inl (aI gn))), (s1, .inr (1, [.ref d1, .ref r1, .int (iI u.2.2)])), (d1, .inl (cI, 16807, .inl (aI u.1))), (r1, .inl (cI, 9163, .inl (aI u.2.1)))])) [.ref tt].toArray s 0 0 A) (F0 m 17 ls []) := by
    intro nn
    induction nn with
    | zero => intro i S g h ct hi0 hi1 hG hBI hsp hbd hms; exfalso; omega
    | succ nn ih17 =>
      intro i S g h ct hi0 hi1 hG hBI hsp hbd hms H locs hP hD hS ls hl
      obtain ⟨hLn, hct, hln, hat⟩ := id hsp
      refine lv_iload_n hx hb dX2_measureLengths_17 rfl (lv_at hl 1 rfl) ?_
      refine zv_sipush hx hb dX2_measureLengths_18 (by decide) ?_
      refine zv_icmp_ge hx hb dX2_measureLengths_21 (tgt := 80) (by decide) ⟨by omega, by omega⟩ ⟨by omega, by omega⟩ (fun c_4 => ?_) (fun c_4 => ?_)
      · exact MM_vret (g, h, ct) hx hb hr hlk hP hD hS (Nat.le_of_ble_eq_true rfl) (Nat.le_of_ble_eq_true rfl) dX2_measureLengths_80 (by rw [← bsG_e hG (by omega)]; exact hsp)
      · refine lv_iload_n hx hb dX2_measureLengths_24 rfl (lv_at hl 1 rfl) ?_
        refine lv_aload_n hx hb dX2_measureLengths_25 rfl (lv_at hl 0 rfl) ?_
        refine va_get (D := D) (ci := 2) (v := .ref s1) (C := RX2) (T := TX2) (N := 7) hx hb hts uX2 hown hK.1 hP 0 rfl rfl 2 (by decide) (hts _ q_159) (fun _ h9 => h9) rfl dX2_measureLengths_26 ?_
        refine zc_V (As := []) (rest := [.int (iI i)]) (ws := [(tt, .inr (2, [.ref fl, .int (iI lim), .ref s1, .ref s2, .int (iI bs), .int (iI P), .int (iI sm)])), (fl, .inr (0, [.int (iI C), .int (iI R), .ref pn, .int (iI np)])), (pn, .inl (cI, 49, .inl (aI gn))), (s1, .inr (1, [.ref d1, .ref r1, .int (iI ct)])), (d1, .inl (cI, 16807, .inl (aI g))), (r1, .inl (cI, 9163, .inl (aI h)))]) (n := 0) hx hb (hml.trans hl.1.symm) hts hown hK hP (c_X1_count l D cI cJ s1 d1 r1 ct) (gd_V q_89 q_90 q_91 q_2 q_92) (by decide +kernel) rfl ⟨Nat.le_of_ble_eq_true rfl, Nat.le_of_ble_eq_true rfl⟩ ⟨Nat.le_of_ble_eq_true rfl, Nat.le_of_ble_eq_true rfl⟩ [3] rfl 3 (ci := 1) rfl rfl rfl rfl (Nat.le_of_ble_eq_true rfl) dX2_measureLengths_29 (fun r_5 hr_5 => ?_)
        subst r_5
        refine zv_icmp_ge hx hb dX2_measureLengths_32 (tgt := 80) (by decide) ⟨by omega, by omega⟩ ⟨by omega, by omega⟩ (fun c_6 => ?_) (fun c_6 => ?_)
        · exact MM_vret (g, h, ct) hx hb hr hlk hP hD hS (Nat.le_of_ble_eq_true rfl) (Nat.le_of_ble_eq_true rfl) dX2_measureLengths_80 (by rw [← bsG_e hG (by omega)]; exact hsp)
        · have hil : i.toNat < S.1.length := by omega
          have hpt := hat i.toNat hil
          have hgf := hBI.2.2.2.1 _ (List.mem_of_getElem? (bsAt_some hil))
          obtain ⟨hf0, hf1, hf2⟩ := hgf.pl
          refine lv_aload_n hx hb dX2_measureLengths_35 rfl (lv_at hl 0 rfl) ?_
          refine va_get (D := D) (ci := 2) (v := .ref s1) (C := RX2) (T := TX2) (N := 7) hx hb hts uX2 hown hK.1 hP 0 rfl rfl 2 (by decide) (hts _ q_159) (fun _ h9 => h9) rfl dX2_measureLengths_36 ?_
          refine lv_iload_n hx hb dX2_measureLengths_39 rfl (lv_at hl 1 rfl) ?_
          refine zc_V (As := [.int (iI i)]) (rest := []) (ws := [(tt, .inr (2, [.ref fl, .int (iI lim), .ref s1, .ref s2, .int (iI bs), .int (iI P), .int (iI sm)])), (fl, .inr (0, [.int (iI C), .int (iI R), .ref pn, .int (iI np)])), (pn, .inl (cI, 49, .inl (aI gn))), (s1, .inr (1, [.ref d1, .ref r1, .int (iI ct)])), (d1, .inl (cI, 16807, .inl (aI g))), (r1, .inl (cI, 9163, .inl (aI h)))]) (n := 1) hx hb (hml.trans hl.1.symm) hts hown hK hP (c_X1_placeAt l D cI cJ s1 d1 r1 ct h i (by omega) (by omega) (by omega) (by omega)) (gd_V q_93 q_94 q_95 q_2 q_96) (by decide +kernel) rfl ⟨Nat.le_of_ble_eq_true rfl, Nat.le_of_ble_eq_true rfl⟩ ⟨Nat.le_of_ble_eq_true rfl, Nat.le_of_ble_eq_true rfl⟩ [3, 5] rfl 3 (ci := 1) rfl rfl rfl rfl (Nat.le_of_ble_eq_true rfl) dX2_measureLengths_40 (fun r_7 hr_7 => ?_)
          subst r_7
          refine zv_top (y := (bsAt S i.toNat)) (hpt) ?_
          refine lv_istore_n (lv' := [(2, .int (iI (bsAt S i.toNat))), (0, .ref tt), (1, .int (iI i))]) hx hb dX2_measureLengths_43 rfl hl (by decide) rfl (fun ls hl => ?_)
          refine zv_iconst hx hb dX2_measureLengths_44 ?_
          refine lv_istore_n (lv' := [(3, .int (iI 0)), (2, .int (iI (bsAt S i.toNat))), (0, .ref tt), (1, .int (iI i))]) hx hb dX2_measureLengths_45 rfl hl (by decide) rfl (fun ls hl => ?_)
          have loop46 : ∀ (nn : Nat) (dd : Int) (f : Nat → Int) (fh : Nat → Int) (fc : Int), (0 ≤ dd) → (dd ≤ 4) → (SpOK (bsK (aftZ C R N) S (bsAt S i.toNat) dd.toNat) f fh fc) → (∀ z, (bsK (aftZ C R N) S (bsAt S i.toNat) dd.toNat).2.1 z < ((bsK (aftZ C R N) S (bsAt S i.toNat) dd.toNat).1.length : Int)) → (4 - dd < (nn : Int)) → ∀ (H : Heap) (locs : List Loc), va_P D vwCl [(tt, .inr (2, [.ref fl, .int (iI lim), .ref s1, .ref s2, .int (iI bs), .int (iI P), .int (iI sm)])), (fl, .inr (0, [.int (iI C), .int (iI R), .ref pn, .int (iI np)])), (pn, .inl (cI, 49, .inl (aI gn))), (s1, .inr (1, [.ref d1, .ref r1, .int (iI fc)])), (d1, .inl (cI, 16807, .inl (aI f))), (r1, .inl (cI, 9163, .inl (aI fh)))] H → va_D A [(tt, .inr (2, [.ref fl, .int (iI lim), .ref s1, .ref s2, .int (iI bs), .int (iI P), .int (iI sm)])), (fl, .inr (0, [.int (iI C), .int (iI R), .ref pn, .int (iI np)])), (pn, .inl (cI, 49, .inl (aI gn))), (s1, .inr (1, [.ref d1, .ref r1, .int (iI fc)])), (d1, .inl (cI, 16807, .inl (aI f))), (r1, .inl (cI, 9163, .inl (aI fh)))] → va_S A s.heap H locs → ∀ ls : Array Slot, lv_has ls 4 [(0, .ref tt), (1, .int (iI i)), (2, .int (iI (bsAt S i.toNat))), (3, .int (iI dd))] → W p l e (rmM 5 0 0) s m [.ref tt].toArray below meth c H locs 0 0 (MQ below (QMv D A (fun (u : (Nat → Int) × (Nat → Int) × Int) => SpOK (BF (aftZ C R N) (bs * 343)) u.1 u.2.1 u.2.2) (fun u : (Nat → Int) × (Nat → Int) × Int => [(tt, .inr (2, [.ref fl, .int (iI lim), .ref s1, .ref s2, .int (iI bs), .int (iI P), .int (iI sm)])), (fl, .inr (0, [.int (iI C), .int (iI R), .ref pn, .int (iI np)])), (pn, .inl (cI, 49, .inl (aI gn))), (s1, .inr (1, [.ref d1, .ref r1, .int (iI u.2.2)])), (d1, .inl (cI, 16807, .inl (aI u.1))), (r1, .inl (cI, 9163, .inl (aI u.2.1)))])) [.ref tt].toArray s 0 0 A) (F0 m 46 ls []) := by
            intro nn
            induction nn with
            | zero => intro dd f fh fc hd0 hd1 hsq hbe hms; exfalso; omega
            | succ nn ih46 =>
              intro dd f fh fc hd0 hd1 hsq hbe hms H locs hP hD hS ls hl
              have hBK := BI_K hBI (bsAt_some hil) (fun d k1 k2 => hgd _ d k1 k2) dd.toNat (by omega)
              refine lv_iload_n hx hb dX2_measureLengths_46 rfl (lv_at hl 3 rfl) ?_
              refine zv_iconst hx hb dX2_measureLengths_47 ?_
              refine zv_icmp_ge hx hb dX2_measureLengths_48 (tgt := 74) (by decide) ⟨by omega, by omega⟩ ⟨by omega, by omega⟩ (fun c_8 => ?_) (fun c_8 => ?_)
              · have hd4 : dd.toNat = 4 := by omega
                refine zv_iinc (k := 1) (lv' := [(1, .int (iI (i + 1))), (0, .ref tt), (2, .int (iI (bsAt S i.toNat))), (3, .int (iI dd))]) hx hb dX2_measureLengths_74 hl rfl (by decide) rfl (fun ls hl => ?_)
                refine lv_goto (tgt := 17) hx hb dX2_measureLengths_77 (by decide) ?_
                exact ih17 (i + 1) (bsK (aftZ C R N) S (bsAt S i.toNat) 4) f fh fc (by omega) (by omega) (by rw [show (i + 1).toNat = i.toNat + 1 by omega, show 16807 - (i.toNat + 1) = 16806 - i.toNat by omega]; exact bsG_s (by rw [show 16806 - i.toNat + 1 = 16807 - i.toNat by omega]; exact hG) hil) (by rw [show (i + 1).toNat = i.toNat + 1 by omega]; exact BI_i (by rw [← hd4]; exact hBK) (by omega)) (by rw [← hd4]; exact hsq) (by rw [← hd4]; exact hbe) (by omega) _ _ hP hD hS ls (lv_sub hl [1, 0] rfl)
              · refine lv_aload_n hx hb dX2_measureLengths_51 rfl (lv_at hl 0 rfl) ?_
                refine va_get (D := D) (ci := 2) (v := .ref s1) (C := RX2) (T := TX2) (N := 7) hx hb hts uX2 hown hK.1 hP 0 rfl rfl 2 (by decide) (hts _ q_159) (fun _ h9 => h9) rfl dX2_measureLengths_52 ?_
                refine lv_aload_n hx hb dX2_measureLengths_55 rfl (lv_at hl 0 rfl) ?_
                refine va_get (D := D) (ci := 2) (v := .ref fl) (C := RX2) (T := TX2) (N := 7) hx hb hts uX2 hown hK.1 hP 0 rfl rfl 0 (by decide) (hts _ q_157) (fun _ h9 => h9) rfl dX2_measureLengths_56 ?_
                refine lv_iload_n hx hb dX2_measureLengths_59 rfl (lv_at hl 2 rfl) ?_
                refine lv_iload_n hx hb dX2_measureLengths_60 rfl (lv_at hl 3 rfl) ?_
                refine zc_V (As := [.int (iI (bsAt S i.toNat)), .int (iI dd)]) (rest := [.ref s1]) (ws := [(tt, .inr (2, [.ref fl, .int (iI lim), .ref s1, .ref s2, .int (iI bs), .int (iI P), .int (iI sm)])), (fl, .inr (0, [.int (iI C), .int (iI R), .ref pn, .int (iI np)])), (pn, .inl (cI, 49, .inl (aI gn))), (s1, .inr (1, [.ref d1, .ref r1, .int (iI fc)])), (d1, .inl (cI, 16807, .inl (aI f))), (r1, .inl (cI, 9163, .inl (aI fh)))]) (n := 2) hx hb (hml.trans hl.1.symm) hts hown hK hP (c_X0_after l D cI cJ fl pn C R np gn N (bsAt S i.toNat) dd hF (by omega) (by omega) (by omega) (by omega) (by omega)) (gd_V q_97 q_98 q_99 q_3 q_100) (by decide +kernel) rfl ⟨Nat.le_of_ble_eq_true rfl, Nat.le_of_ble_eq_true rfl⟩ ⟨Nat.le_of_ble_eq_true rfl, Nat.le_of_ble_eq_true rfl⟩ [1, 2] rfl 1 (ci := 0) rfl rfl rfl rfl (Nat.le_of_ble_eq_true rfl) dX2_measureLengths_61 (fun r_9 hr_9 => ?_)
                subst r_9
                refine lv_iload_n hx hb dX2_measureLengths_64 rfl (lv_at hl 2 rfl) ?_
                have hab := aftZ_b hF (d := dd) hf0 hf1 hf2
                have hBd := BI_d hBK (bsK_at _ _ _ _ _ _ (bsAt_some hil)) (by omega) (by omega) (fun k1 k2 => hgd _ _ (by omega) (by omega) k1 k2)
                rw [Int.toNat_of_nonneg hd0] at hBd
                have hln9 := gd_len hBd.1 hBd.2.2.2.1
                have hmf := hBK.2.2.1 (bsAt S i.toNat)
                have hmg : 0 ≤ (bsK (aftZ C R N) S (bsAt S i.toNat) dd.toNat).2.1 (bsAt S i.toNat) := by rcases hmf with k | k <;> first | exact k.1 | exact absurd (List.mem_of_getElem? (bsK_at _ _ _ _ _ _ (bsAt_some hil))) k.2
                have hbf := hbe (bsAt S i.toNat)
                have hlq := hsq.2.2.1
                refine zm_Vv (As := [.int (iI (aftZ C R N (bsAt S i.toNat) dd)), .int (iI (bsAt S i.toNat))]) (rest := []) (ws := [(tt, .inr (2, [.ref fl, .int (iI lim), .ref s1, .ref s2, .int (iI bs), .int (iI P), .int (iI sm)])), (fl, .inr (0, [.int (iI C), .int (iI R), .ref pn, .int (iI np)])), (pn, .inl (cI, 49, .inl (aI gn))), (s1, .inr (1, [.ref d1, .ref r1, .int (iI fc)])), (d1, .inl (cI, 16807, .inl (aI f))), (r1, .inl (cI, 9163, .inl (aI fh)))]) (wr := [(tt, .inr (2, [.ref fl, .int (iI lim), .ref s1, .ref s2, .int (iI bs), .int (iI P), .int (iI sm)])), (fl, .inr (0, [.int (iI C), .int (iI R), .ref pn, .int (iI np)])), (pn, .inl (cI, 49, .inl (aI gn)))]) (n := 2) hx hb (hml.trans hl.1.symm) hts hown hK hP hD hS hA (c_X1_reach l D cI cJ s1 d1 r1 fc f fh (aftZ C R N (bsAt S i.toNat) dd) (bsAt S i.toNat) (bsK (aftZ C R N) S (bsAt S i.toNat) dd.toNat) hsq (by omega) (by omega) (by omega) (by omega) (by omega) (by omega) hln9 _) (gd_V q_149 q_150 q_151 q_2 q_152) (by decide +kernel) rfl ⟨Nat.le_of_ble_eq_true rfl, Nat.le_of_ble_eq_true rfl⟩ ⟨Nat.le_of_ble_eq_true rfl, Nat.le_of_ble_eq_true rfl⟩ [3, 4, 5] [0, 1, 2] rfl rfl (by decide) (by decide) (by decide) 3 (ci := 1) rfl rfl rfl rfl (Nat.le_of_ble_eq_true rfl) dX2_measureLengths_65 (fun u H locs hq_10 hP hD hS => ?_)
                obtain ⟨g9, h9, c9⟩ := u
                have hP := hP.sub (ws' := [(tt, .inr (2, [.ref fl, .int (iI lim), .ref s1, .ref s2, .int (iI bs), .int (iI P), .int (iI sm)])), (fl, .inr (0, [.int (iI C), .int (iI R), .ref pn, .int (iI np)])), (pn, .inl (cI, 49, .inl (aI gn))), (s1, .inr (1, [.ref d1, .ref r1, .int (iI c9)])), (d1, .inl (cI, 16807, .inl (aI g9))), (r1, .inl (cI, 9163, .inl (aI h9)))]) [0, 1, 2, 3, 4, 5] rfl
                have hD := hD.sub (ws' := [(tt, .inr (2, [.ref fl, .int (iI lim), .ref s1, .ref s2, .int (iI bs), .int (iI P), .int (iI sm)])), (fl, .inr (0, [.int (iI C), .int (iI R), .ref pn, .int (iI np)])), (pn, .inl (cI, 49, .inl (aI gn))), (s1, .inr (1, [.ref d1, .ref r1, .int (iI c9)])), (d1, .inl (cI, 16807, .inl (aI g9))), (r1, .inl (cI, 9163, .inl (aI h9)))]) [0, 1, 2, 3, 4, 5] (by decide) rfl
                try dsimp only at hq_10
                have hrc := hq_10
                refine zv_iinc (k := 3) (lv' := [(3, .int (iI (dd + 1))), (0, .ref tt), (1, .int (iI i)), (2, .int (iI (bsAt S i.toNat)))]) hx hb dX2_measureLengths_68 hl rfl (by decide) rfl (fun ls hl => ?_)
                refine lv_goto (tgt := 46) hx hb dX2_measureLengths_71 (by decide) ?_
                exact ih46 (dd + 1) g9 h9 c9 (by omega) (by omega) (by rw [show (dd + 1).toNat = dd.toNat + 1 by omega]; show SpOK (bsR _ (aftZ C R N (bsAt S i.toNat) (dd.toNat : Int)) _) _ _ _; rw [Int.toNat_of_nonneg hd0]; exact hrc) (by rw [show (dd + 1).toNat = dd.toNat + 1 by omega]; exact bsR_b hbe) (by omega) _ _ hP hD hS ls (lv_sub hl [1, 2, 3, 0] rfl)
          exact loop46 5 0 g h ct (by omega) (by omega) hsp hbd (by omega) _ _ hP hD hS ls (lv_sub hl [2, 3, 1, 0] rfl)
  exact loop17 16808 0 (bs0 (bs * 343)) g0 h0 c0 (by omega) (by omega) rfl (BI_0 hbs) hbg (fun z => by show (if z = bs * 343 then (0 : Int) else -1) < 1; split <;> omega) (by omega) _ _ hP hD hS ls (lv_sub hl [1, 0] rfl)
set_option maxRecDepth 100000 in
set_option maxHeartbeats 4000000 in
theorem c_X2_nearestPlaceOf (l : Launch) (D : va_G) (cI cJ : ClassId) (tt fl s1 s2 pn d1 r1 d2 r2 : Nat) (lim bs P sm C R np c1 c2 : Int) (gn g1 g2 h2 : Nat → Int) (N L : Int → Int) (q : Int) (hF : FlOK C R np N gn) (hL : LenOK L g1) (hlm : 1 ≤ lim ∧ lim ≤ 60) (hPg : GdZ C R N P) (hq0 : 0 ≤ q) (hq1 : q < 49) (sz : Nat) : MMi l yX2_nearestPlaceOf (.code yX2_nearestPlaceOf cX2_nearestPlaceOf 5 (some .int)) 6 0 0 [.ref tt, .int (iI q)] D cI cJ [(tt, .inr (2, [.ref fl, .int (iI lim), .ref s1, .ref s2, .int (iI bs), .int (iI P), .int (iI sm)])), (fl, .inr (0, [.int (iI C), .int (iI R), .ref pn, .int (iI np)])), (pn, .inl (cI, 49, .inl (aI gn))), (s1, .inr (1, [.ref d1, .ref r1, .int (iI c1)])), (d1, .inl (cI, 16807, .inl (aI g1))), (s2, .inr (1, [.ref d2, .ref r2, .int (iI c2)])), (d2, .inl (cI, 16807, .inl (aI g2))), (r2, .inl (cI, 9163, .inl (aI h2)))] sz (fun (r : Int) (u : (Nat → Int) × (Nat → Int) × Int) => r = (bsF (astZ C R N L lim) q 16807 0 (bs0 P)).1 ∧ SpOK (bsF (astZ C R N L lim) q 16807 0 (bs0 P)).2 u.1 u.2.1 u.2.2) (fun u : (Nat → Int) × (Nat → Int) × Int => [(tt, .inr (2, [.ref fl, .int (iI lim), .ref s1, .ref s2, .int (iI bs), .int (iI P), .int (iI sm)])), (fl, .inr (0, [.int (iI C), .int (iI R), .ref pn, .int (iI np)])), (pn, .inl (cI, 49, .inl (aI gn))), (s1, .inr (1, [.ref d1, .ref r1, .int (iI c1)])), (d1, .inl (cI, 16807, .inl (aI g1))), (s2, .inr (1, [.ref d2, .ref r2, .int (iI u.2.2)])), (d2, .inl (cI, 16807, .inl (aI u.1))), (r2, .inl (cI, 9163, .inl (aI u.2.1)))]) := by
  obtain ⟨hC1, hC2, hR1, hR2, hp1, hp2, -, -⟩ := id hF
  obtain ⟨hP0, hP1, -, -, -, -⟩ := id hPg
  have hgd : ∀ z d : Int, 0 ≤ d → d ≤ 3 → GdZ C R N z → astZ C R N L lim z d ≠ -1 → GdZ C R N (astZ C R N L lim z d) := fun z d k1 k2 k3 k4 => astZ_gd hF k3 k1 k2 k4
  refine MM_of (Qc := fun A => QMi D A (fun (r : Int) (u : (Nat → Int) × (Nat → Int) × Int) => r = (bsF (astZ C R N L lim) q 16807 0 (bs0 P)).1 ∧ SpOK (bsF (astZ C R N L lim) q 16807 0 (bs0 P)).2 u.1 u.2.1 u.2.2) (fun u : (Nat → Int) × (Nat → Int) × Int => [(tt, .inr (2, [.ref fl, .int (iI lim), .ref s1, .ref s2, .int (iI bs), .int (iI P), .int (iI sm)])), (fl, .inr (0, [.int (iI C), .int (iI R), .ref pn, .int (iI np)])), (pn, .inl (cI, 49, .inl (aI gn))), (s1, .inr (1, [.ref d1, .ref r1, .int (iI c1)])), (d1, .inl (cI, 16807, .inl (aI g1))), (s2, .inr (1, [.ref d2, .ref r2, .int (iI u.2.2)])), (d2, .inl (cI, 16807, .inl (aI u.1))), (r2, .inl (cI, 9163, .inl (aI u.2.1)))])) (by decide) rfl (Nat.le_of_ble_eq_true rfl) (fun p e s m below meth c ls A hx hb hr hts hown hlk hml hin hK hP hD hA hS hl => ?_)
  have hl : lv_has ls 5 [(0, .ref tt), (1, .int (iI q))] := hl
  refine lv_aload_n hx hb dX2_nearestPlaceOf_0 rfl (lv_at hl 0 rfl) ?_
  refine va_get (D := D) (ci := 2) (v := .ref s2) (C := RX2) (T := TX2) (N := 7) hx hb hts uX2 hown hK.1 hP 0 rfl rfl 3 (by decide) (hts _ q_160) (fun _ h9 => h9) rfl dX2_nearestPlaceOf_1 ?_
  refine lv_aload_n hx hb dX2_nearestPlaceOf_4 rfl (lv_at hl 0 rfl) ?_
  refine va_get (D := D) (ci := 2) (v := .int (iI P)) (C := RX2) (T := TX2) (N := 7) hx hb hts uX2 hown hK.1 hP 0 rfl rfl 5 (by decide) (hts _ q_162) (fun _ h9 => h9) rfl dX2_nearestPlaceOf_5 ?_
  refine zm_Vv (As := [.int (iI P)]) (rest := []) (ws := [(tt, .inr (2, [.ref fl, .int (iI lim), .ref s1, .ref s2, .int (iI bs), .int (iI P), .int (iI sm)])), (fl, .inr (0, [.int (iI C), .int (iI R), .ref pn, .int (iI np)])), (pn, .inl (cI, 49, .inl (aI gn))), (s1, .inr (1, [.ref d1, .ref r1, .int (iI c1)])), (d1, .inl (cI, 16807, .inl (aI g1))), (s2, .inr (1, [.ref d2, .ref r2, .int (iI c2)])), (d2, .inl (cI, 16807, .inl (aI g2))), (r2, .inl (cI, 9163, .inl (aI h2)))]) (wr := [(tt, .inr (2, [.ref fl, .int (iI lim), .ref s1, .ref s2, .int (iI bs), .int (iI P), .int (iI sm)])), (fl, .inr (0, [.int (iI C), .int (iI R), .ref pn, .int (iI np)])), (pn, .inl (cI, 49, .inl (aI gn))), (s1, .inr (1, [.ref d1, .ref r1, .int (iI c1)])), (d1, .inl (cI, 16807, .inl (aI g1)))]) (n := 1) hx hb (hml.trans hl.1.symm) hts hown hK hP hD hS hA (c_X1_begin l D cI cJ s2 d2 r2 c2 g2 h2 P (by omega) (by omega) _) (gd_V q_80 q_81 q_82 q_2 q_83) (by decide +kernel) rfl ⟨Nat.le_of_ble_eq_true rfl, Nat.le_of_ble_eq_true rfl⟩ ⟨Nat.le_of_ble_eq_true rfl, Nat.le_of_ble_eq_true rfl⟩ [5, 6, 7] [0, 1, 2, 3, 4] rfl rfl (by decide) (by decide) (by decide) 5 (ci := 1) rfl rfl rfl rfl (Nat.le_of_ble_eq_true rfl) dX2_nearestPlaceOf_8 (fun u H locs hq_1 hP hD hS => ?_)
  obtain ⟨g0, h0, c0⟩ := u
  have hP := hP.sub (ws' := [(tt, .inr (2, [.ref fl, .int (iI lim), .ref s1, .ref s2, .int (iI bs), .int (iI P), .int (iI sm)])), (fl, .inr (0, [.int (iI C), .int (iI R), .ref pn, .int (iI np)])), (pn, .inl (cI, 49, .inl (aI gn))), (s1, .inr (1, [.ref d1, .ref r1, .int (iI c1)])), (d1, .inl (cI, 16807, .inl (aI g1))), (s2, .inr (1, [.ref d2, .ref r2, .int (iI c0)])), (d2, .inl (cI, 16807, .inl (aI g0))), (r2, .inl (cI, 9163, .inl (aI h0)))]) [0, 1, 2, 3, 4, 5, 6, 7] rfl
  have hD := hD.sub (ws' := [(tt, .inr (2, [.ref fl, .int (iI lim), .ref s1, .ref s2, .int (iI bs), .int (iI P), .int (iI sm)])), (fl, .inr (0, [.int (iI C), .int (iI R), .ref pn, .int (iI np)])), (pn, .inl (cI, 49, .inl (aI gn))), (s1, .inr (1, [.ref d1, .ref r1, .int (iI c1)])), (d1, .inl (cI, 16807, .inl (aI g1))), (s2, .inr (1, [.ref d2, .ref r2, .int (iI c0)])), (d2, .inl (cI, 16807, .inl (aI g0))), (r2, .inl (cI, 9163, .inl (aI h0)))]) [0, 1, 2, 3, 4, 5, 6, 7] (by decide) rfl
  try dsimp only at hq_1
  have hbg := hq_1
  refine zv_iconst hx hb dX2_nearestPlaceOf_11 ?_
  refine lv_istore_n (lv' := [(2, .int (iI 0)), (0, .ref tt), (1, .int (iI q))]) hx hb dX2_nearestPlaceOf_12 rfl hl (by decide) rfl (fun ls hl => ?_)
  have loop13 : ∀ (nn : Nat) (i : Int) (S : BS) (g : Nat → Int) (h : Nat → Int) (ct : Int), (0 ≤ i) → (i ≤ 16807) → (bsF (astZ C R N L lim) q (16807 - i.toNat) i.toNat S = bsF (astZ C R N L lim) q 16807 0 (bs0 P)) → (BI (astZ C R N L lim) P (GdZ C R N) S i.toNat 0) → (SpOK S g h ct) → (∀ z, S.2.1 z < (S.1.length : Int)) → (16807 - i < (nn : Int)) → ∀ (H : Heap) (locs : List Loc), va_P D vwCl [(tt, .inr (2, [.ref fl, .int (iI lim), .ref s1, .ref s2, .int (iI bs), .int (iI P), .int (iI sm)])), (fl, .inr (0, [.int (iI C), .int (iI R), .ref pn, .int (iI np)])), (pn, .inl (cI, 49, .inl (aI gn))), (s1, .inr (1, [.ref d1, .ref r1, .int (iI c1)])), (d1, .inl (cI, 16807, .inl (aI g1))), (s2, .inr (1, [.ref d2, .ref r2, .int (iI ct)])), (d2, .inl (cI, 16807, .inl (aI g))), (r2, .inl (cI, 9163, .inl (aI h)))] H → va_D A [(tt, .inr (2, [.ref fl, .int (iI lim), .ref s1, .ref s2, .int (iI bs), .int (iI P), .int (iI sm)])), (fl, .inr (0, [.int (iI C), .int (iI R), .ref pn, .int (iI np)])), (pn, .inl (cI, 49, .inl (aI gn))), (s1, .inr (1, [.ref d1, .ref r1, .int (iI c1)])), (d1, .inl (cI, 16807, .inl (aI g1))), (s2, .inr (1, [.ref d2, .ref r2, .int (iI ct)])), (d2, .inl (cI, 16807, .inl (aI g))), (r2, .inl (cI, 9163, .inl (aI h)))] → va_S A s.heap H locs → ∀ ls : Array Slot, lv_has ls 5 [(0, .ref tt), (1, .int (iI q)), (2, .int (iI i))] → W p l e (rmM 6 0 0) s m [.ref tt, .int (iI q)].toArray below meth c H locs 0 0 (MQ below (QMi D A (fun (r : Int) (u : (Nat → Int) × (Nat → Int) × Int) => r = (bsF (astZ C R N L lim) q 16807 0 (bs0 P)).1 ∧ SpOK (bsF (astZ C R N L lim) q 16807 0 (bs0 P)).2 u.1 u.2.1 u.2.2) (fun u : (Nat → Int) × (Nat → Int) × Int => [(tt, .inr (2, [.ref fl, .int (iI lim), .ref s1, .ref s2, .int (iI bs), .int (iI P), .int (iI sm)])), (fl, .inr (0, [.int (iI C), .int (iI R), .ref pn, .int (iI np)])), (pn, .inl (cI, 49, .inl (aI gn))), (s1, .inr (1, [.ref d1, .ref r1, .int (iI c1)])), (d1, .inl (cI, 16807, .inl (aI g1))), (s2, .inr (1, [.ref d2, .ref r2, .int (iI u.2.2)])), (d2, .inl (cI, 16807, .inl (aI u.1))), (r2, .inl (cI, 9163, .inl (aI u.2.1)))])) [.ref tt, .int (iI q)].toArray s 0 0 A) (F0 m 13 ls []) := by
    intro nn
    induction nn with
    | zero => intro i S g h ct hi0 hi1 hG hBI hsp hbd hms; exfalso; omega
    | succ nn ih13 =>
      intro i S g h ct hi0 hi1 hG hBI hsp hbd hms H locs hP hD hS ls hl
      obtain ⟨hLn, hct, hln, hat⟩ := id hsp
      refine lv_iload_n hx hb dX2_nearestPlaceOf_13 rfl (lv_at hl 2 rfl) ?_
      refine zv_sipush hx hb dX2_nearestPlaceOf_14 (by decide) ?_
      refine zv_icmp_ge hx hb dX2_nearestPlaceOf_17 (tgt := 86) (by decide) ⟨by omega, by omega⟩ ⟨by omega, by omega⟩ (fun c_3 => ?_) (fun c_3 => ?_)
      · refine zv_iconst hx hb dX2_nearestPlaceOf_86 ?_
        exact MM_iret (g, h, ct) hx hb hr hlk hP hD hS (Nat.le_of_ble_eq_true rfl) (Nat.le_of_ble_eq_true rfl) dX2_nearestPlaceOf_87 (by rw [bsF_e hG (by omega)]; exact ⟨rfl, hsp⟩)
      · refine lv_iload_n hx hb dX2_nearestPlaceOf_20 rfl (lv_at hl 2 rfl) ?_
        refine lv_aload_n hx hb dX2_nearestPlaceOf_21 rfl (lv_at hl 0 rfl) ?_
        refine va_get (D := D) (ci := 2) (v := .ref s2) (C := RX2) (T := TX2) (N := 7) hx hb hts uX2 hown hK.1 hP 0 rfl rfl 3 (by decide) (hts _ q_160) (fun _ h9 => h9) rfl dX2_nearestPlaceOf_22 ?_
        refine zc_V (As := []) (rest := [.int (iI i)]) (ws := [(tt, .inr (2, [.ref fl, .int (iI lim), .ref s1, .ref s2, .int (iI bs), .int (iI P), .int (iI sm)])), (fl, .inr (0, [.int (iI C), .int (iI R), .ref pn, .int (iI np)])), (pn, .inl (cI, 49, .inl (aI gn))), (s1, .inr (1, [.ref d1, .ref r1, .int (iI c1)])), (d1, .inl (cI, 16807, .inl (aI g1))), (s2, .inr (1, [.ref d2, .ref r2, .int (iI ct)])), (d2, .inl (cI, 16807, .inl (aI g))), (r2, .inl (cI, 9163, .inl (aI h)))]) (n := 0) hx hb (hml.trans hl.1.symm) hts hown hK hP (c_X1_count l D cI cJ s2 d2 r2 ct) (gd_V q_89 q_90 q_91 q_2 q_92) (by decide +kernel) rfl ⟨Nat.le_of_ble_eq_true rfl, Nat.le_of_ble_eq_true rfl⟩ ⟨Nat.le_of_ble_eq_true rfl, Nat.le_of_ble_eq_true rfl⟩ [5] rfl 5 (ci := 1) rfl rfl rfl rfl (Nat.le_of_ble_eq_true rfl) dX2_nearestPlaceOf_25 (fun r_4 hr_4 => ?_)
        subst r_4
        refine zv_icmp_ge hx hb dX2_nearestPlaceOf_28 (tgt := 86) (by decide) ⟨by omega, by omega⟩ ⟨by omega, by omega⟩ (fun c_5 => ?_) (fun c_5 => ?_)
        · refine zv_iconst hx hb dX2_nearestPlaceOf_86 ?_
          exact MM_iret (g, h, ct) hx hb hr hlk hP hD hS (Nat.le_of_ble_eq_true rfl) (Nat.le_of_ble_eq_true rfl) dX2_nearestPlaceOf_87 (by rw [bsF_e hG (by omega)]; exact ⟨rfl, hsp⟩)
        · have hil : i.toNat < S.1.length := by omega
          have hpt := hat i.toNat hil
          have hgf := hBI.2.2.2.1 _ (List.mem_of_getElem? (bsAt_some hil))
          obtain ⟨hf0, hf1, hf2⟩ := hgf.pl
          refine lv_aload_n hx hb dX2_nearestPlaceOf_31 rfl (lv_at hl 0 rfl) ?_
          refine va_get (D := D) (ci := 2) (v := .ref s2) (C := RX2) (T := TX2) (N := 7) hx hb hts uX2 hown hK.1 hP 0 rfl rfl 3 (by decide) (hts _ q_160) (fun _ h9 => h9) rfl dX2_nearestPlaceOf_32 ?_
          refine lv_iload_n hx hb dX2_nearestPlaceOf_35 rfl (lv_at hl 2 rfl) ?_
          refine zc_V (As := [.int (iI i)]) (rest := []) (ws := [(tt, .inr (2, [.ref fl, .int (iI lim), .ref s1, .ref s2, .int (iI bs), .int (iI P), .int (iI sm)])), (fl, .inr (0, [.int (iI C), .int (iI R), .ref pn, .int (iI np)])), (pn, .inl (cI, 49, .inl (aI gn))), (s1, .inr (1, [.ref d1, .ref r1, .int (iI c1)])), (d1, .inl (cI, 16807, .inl (aI g1))), (s2, .inr (1, [.ref d2, .ref r2, .int (iI ct)])), (d2, .inl (cI, 16807, .inl (aI g))), (r2, .inl (cI, 9163, .inl (aI h)))]) (n := 1) hx hb (hml.trans hl.1.symm) hts hown hK hP (c_X1_placeAt l D cI cJ s2 d2 r2 ct h i (by omega) (by omega) (by omega) (by omega)) (gd_V q_93 q_94 q_95 q_2 q_96) (by decide +kernel) rfl ⟨Nat.le_of_ble_eq_true rfl, Nat.le_of_ble_eq_true rfl⟩ ⟨Nat.le_of_ble_eq_true rfl, Nat.le_of_ble_eq_true rfl⟩ [5, 7] rfl 5 (ci := 1) rfl rfl rfl rfl (Nat.le_of_ble_eq_true rfl) dX2_nearestPlaceOf_36 (fun r_6 hr_6 => ?_)
          subst r_6
          refine zv_top (y := (bsAt S i.toNat)) (hpt) ?_
          refine lv_istore_n (lv' := [(3, .int (iI (bsAt S i.toNat))), (0, .ref tt), (1, .int (iI q)), (2, .int (iI i))]) hx hb dX2_nearestPlaceOf_39 rfl hl (by decide) rfl (fun ls hl => ?_)
          refine lv_iload_n hx hb dX2_nearestPlaceOf_40 rfl (lv_at hl 0 rfl) ?_
          refine zc_S (As := [.int (iI (bsAt S i.toNat))]) (rest := []) (ws := [(tt, .inr (2, [.ref fl, .int (iI lim), .ref s1, .ref s2, .int (iI bs), .int (iI P), .int (iI sm)])), (fl, .inr (0, [.int (iI C), .int (iI R), .ref pn, .int (iI np)])), (pn, .inl (cI, 49, .inl (aI gn))), (s1, .inr (1, [.ref d1, .ref r1, .int (iI c1)])), (d1, .inl (cI, 16807, .inl (aI g1))), (s2, .inr (1, [.ref d2, .ref r2, .int (iI ct)])), (d2, .inl (cI, 16807, .inl (aI g))), (r2, .inl (cI, 9163, .inl (aI h)))]) (n := 1) hx hb (hml.trans hl.1.symm) hts hown hK hP (c_X2_squareOf l D cI cJ (bsAt S i.toNat) (by omega) (by omega)) (gd_S q_183 q_102 q_1 q_103) (by decide +kernel) rfl ⟨Nat.le_of_ble_eq_true rfl, Nat.le_of_ble_eq_true rfl⟩ ⟨Nat.le_of_ble_eq_true rfl, Nat.le_of_ble_eq_true rfl⟩ [] rfl rfl (Nat.le_of_ble_eq_true rfl) dX2_nearestPlaceOf_41 (fun r_7 hr_7 => ?_)
          subst r_7
          refine lv_iload_n hx hb dX2_nearestPlaceOf_44 rfl (lv_at hl 2 rfl) ?_
          refine zv_icmp_ne hx hb dX2_nearestPlaceOf_45 (tgt := 50) (by decide) ⟨by omega, by omega⟩ ⟨by omega, by omega⟩ (fun c_8 => ?_) (fun c_8 => ?_)
          · have hnq : ¬ bsAt S i.toNat / 343 = q := by assumption
            refine zv_iconst hx hb dX2_nearestPlaceOf_50 ?_
            refine lv_istore (lv' := [(4, .int (iI 0)), (3, .int (iI (bsAt S i.toNat))), (0, .ref tt), (1, .int (iI q)), (2, .int (iI i))]) hx hb dX2_nearestPlaceOf_51 hl (by decide) rfl (fun ls hl => ?_)
            have loop53 : ∀ (nn : Nat) (dd : Int) (f : Nat → Int) (fh : Nat → Int) (fc : Int), (0 ≤ dd) → (dd ≤ 4) → (SpOK (bsK (astZ C R N L lim) S (bsAt S i.toNat) dd.toNat) f fh fc) → (∀ z, (bsK (astZ C R N L lim) S (bsAt S i.toNat) dd.toNat).2.1 z < ((bsK (astZ C R N L lim) S (bsAt S i.toNat) dd.toNat).1.length : Int)) → (4 - dd < (nn : Int)) → ∀ (H : Heap) (locs : List Loc), va_P D vwCl [(tt, .inr (2, [.ref fl, .int (iI lim), .ref s1, .ref s2, .int (iI bs), .int (iI P), .int (iI sm)])), (fl, .inr (0, [.int (iI C), .int (iI R), .ref pn, .int (iI np)])), (pn, .inl (cI, 49, .inl (aI gn))), (s1, .inr (1, [.ref d1, .ref r1, .int (iI c1)])), (d1, .inl (cI, 16807, .inl (aI g1))), (s2, .inr (1, [.ref d2, .ref r2, .int (iI fc)])), (d2, .inl (cI, 16807, .inl (aI f))), (r2, .inl (cI, 9163, .inl (aI fh)))] H → va_D A [(tt, .inr (2, [.ref fl, .int (iI lim), .ref s1, .ref s2, .int (iI bs), .int (iI P), .int (iI sm)])), (fl, .inr (0, [.int (iI C), .int (iI R), .ref pn, .int (iI np)])), (pn, .inl (cI, 49, .inl (aI gn))), (s1, .inr (1, [.ref d1, .ref r1, .int (iI c1)])), (d1, .inl (cI, 16807, .inl (aI g1))), (s2, .inr (1, [.ref d2, .ref r2, .int (iI fc)])), (d2, .inl (cI, 16807, .inl (aI f))), (r2, .inl (cI, 9163, .inl (aI fh)))] → va_S A s.heap H locs → ∀ ls : Array Slot, lv_has ls 5 [(0, .ref tt), (1, .int (iI q)), (2, .int (iI i)), (3, .int (iI (bsAt S i.toNat))), (4, .int (iI dd))] → W p l e (rmM 6 0 0) s m [.ref tt, .int (iI q)].toArray below meth c H locs 0 0 (MQ below (QMi D A (fun (r : Int) (u : (Nat → Int) × (Nat → Int) × Int) => r = (bsF (astZ C R N L lim) q 16807 0 (bs0 P)).1 ∧ SpOK (bsF (astZ C R N L lim) q 16807 0 (bs0 P)).2 u.1 u.2.1 u.2.2) (fun u : (Nat → Int) × (Nat → Int) × Int => [(tt, .inr (2, [.ref fl, .int (iI lim), .ref s1, .ref s2, .int (iI bs), .int (iI P), .int (iI sm)])), (fl, .inr (0, [.int (iI C), .int (iI R), .ref pn, .int (iI np)])), (pn, .inl (cI, 49, .inl (aI gn))), (s1, .inr (1, [.ref d1, .ref r1, .int (iI c1)])), (d1, .inl (cI, 16807, .inl (aI g1))), (s2, .inr (1, [.ref d2, .ref r2, .int (iI u.2.2)])), (d2, .inl (cI, 16807, .inl (aI u.1))), (r2, .inl (cI, 9163, .inl (aI u.2.1)))])) [.ref tt, .int (iI q)].toArray s 0 0 A) (F0 m 53 ls []) := by
              intro nn
              induction nn with
              | zero => intro dd f fh fc hd0 hd1 hsq hbe hms; exfalso; omega
              | succ nn ih53 =>
                intro dd f fh fc hd0 hd1 hsq hbe hms H locs hP hD hS ls hl
                have hBK := BI_K hBI (bsAt_some hil) (fun d k1 k2 => hgd _ d k1 k2) dd.toNat (by omega)
                refine lv_iload hx hb dX2_nearestPlaceOf_53 (lv_at hl 4 rfl) ?_
                refine zv_iconst hx hb dX2_nearestPlaceOf_55 ?_
                refine zv_icmp_ge hx hb dX2_nearestPlaceOf_56 (tgt := 80) (by decide) ⟨by omega, by omega⟩ ⟨by omega, by omega⟩ (fun c_9 => ?_) (fun c_9 => ?_)
                · have hd4 : dd.toNat = 4 := by omega
                  refine zv_iinc (k := 2) (lv' := [(2, .int (iI (i + 1))), (0, .ref tt), (1, .int (iI q)), (3, .int (iI (bsAt S i.toNat))), (4, .int (iI dd))]) hx hb dX2_nearestPlaceOf_80 hl rfl (by decide) rfl (fun ls hl => ?_)
                  refine lv_goto (tgt := 13) hx hb dX2_nearestPlaceOf_83 (by decide) ?_
                  exact ih13 (i + 1) (bsK (astZ C R N L lim) S (bsAt S i.toNat) 4) f fh fc (by omega) (by omega) (by rw [show (i + 1).toNat = i.toNat + 1 by omega, show 16807 - (i.toNat + 1) = 16806 - i.toNat by omega]; exact bsF_s (by rw [show 16806 - i.toNat + 1 = 16807 - i.toNat by omega]; exact hG) hil hnq) (by rw [show (i + 1).toNat = i.toNat + 1 by omega]; exact BI_i (by rw [← hd4]; exact hBK) (by omega)) (by rw [← hd4]; exact hsq) (by rw [← hd4]; exact hbe) (by omega) _ _ hP hD hS ls (lv_sub hl [1, 2, 0] rfl)
                · refine lv_aload_n hx hb dX2_nearestPlaceOf_59 rfl (lv_at hl 0 rfl) ?_
                  refine va_get (D := D) (ci := 2) (v := .ref s2) (C := RX2) (T := TX2) (N := 7) hx hb hts uX2 hown hK.1 hP 0 rfl rfl 3 (by decide) (hts _ q_160) (fun _ h9 => h9) rfl dX2_nearestPlaceOf_60 ?_
                  refine lv_aload_n hx hb dX2_nearestPlaceOf_63 rfl (lv_at hl 0 rfl) ?_
                  refine lv_iload_n hx hb dX2_nearestPlaceOf_64 rfl (lv_at hl 3 rfl) ?_
                  refine lv_iload hx hb dX2_nearestPlaceOf_65 (lv_at hl 4 rfl) ?_
                  refine zc_V (As := [.int (iI (bsAt S i.toNat)), .int (iI dd)]) (rest := [.ref s2]) (ws := [(tt, .inr (2, [.ref fl, .int (iI lim), .ref s1, .ref s2, .int (iI bs), .int (iI P), .int (iI sm)])), (fl, .inr (0, [.int (iI C), .int (iI R), .ref pn, .int (iI np)])), (pn, .inl (cI, 49, .inl (aI gn))), (s1, .inr (1, [.ref d1, .ref r1, .int (iI c1)])), (d1, .inl (cI, 16807, .inl (aI g1))), (s2, .inr (1, [.ref d2, .ref r2, .int (iI fc)])), (d2, .inl (cI, 16807, .inl (aI f))), (r2, .inl (cI, 9163, .inl (aI fh)))]) (n := 2) hx hb (hml.trans hl.1.symm) hts hown hK hP (c_X2_afterStep l D cI cJ tt fl s1 s2 pn d1 r1 lim bs P sm C R np c1 gn g1 N L (bsAt S i.toNat) dd hF hL hlm (by omega) (by omega) (by omega) (by omega) (by omega)) (gd_V q_376 q_378 q_1011 q_1 q_379) (by decide +kernel) rfl ⟨Nat.le_of_ble_eq_true rfl, Nat.le_of_ble_eq_true rfl⟩ ⟨Nat.le_of_ble_eq_true rfl, Nat.le_of_ble_eq_true rfl⟩ [0, 1, 2, 3, 4] rfl 0 (ci := 2) rfl rfl rfl rfl (Nat.le_of_ble_eq_true rfl) dX2_nearestPlaceOf_67 (fun r_10 hr_10 => ?_)
                  subst r_10
                  refine lv_iload_n hx hb dX2_nearestPlaceOf_70 rfl (lv_at hl 3 rfl) ?_
                  have hab := astZ_b hF (L := L) (lim := lim) (d := dd) hf0 hf1 hf2
                  have hBd := BI_d hBK (bsK_at _ _ _ _ _ _ (bsAt_some hil)) (by omega) (by omega) (fun k1 k2 => hgd _ _ (by omega) (by omega) k1 k2)
                  rw [Int.toNat_of_nonneg hd0] at hBd
                  have hln9 := gd_len hBd.1 hBd.2.2.2.1
                  have hmf := hBK.2.2.1 (bsAt S i.toNat)
                  have hmg : 0 ≤ (bsK (astZ C R N L lim) S (bsAt S i.toNat) dd.toNat).2.1 (bsAt S i.toNat) := by rcases hmf with k | k <;> first | exact k.1 | exact absurd (List.mem_of_getElem? (bsK_at _ _ _ _ _ _ (bsAt_some hil))) k.2
                  have hbf := hbe (bsAt S i.toNat)
                  have hlq := hsq.2.2.1
                  refine zm_Vv (As := [.int (iI (astZ C R N L lim (bsAt S i.toNat) dd)), .int (iI (bsAt S i.toNat))]) (rest := []) (ws := [(tt, .inr (2, [.ref fl, .int (iI lim), .ref s1, .ref s2, .int (iI bs), .int (iI P), .int (iI sm)])), (fl, .inr (0, [.int (iI C), .int (iI R), .ref pn, .int (iI np)])), (pn, .inl (cI, 49, .inl (aI gn))), (s1, .inr (1, [.ref d1, .ref r1, .int (iI c1)])), (d1, .inl (cI, 16807, .inl (aI g1))), (s2, .inr (1, [.ref d2, .ref r2, .int (iI fc)])), (d2, .inl (cI, 16807, .inl (aI f))), (r2, .inl (cI, 9163, .inl (aI fh)))]) (wr := [(tt, .inr (2, [.ref fl, .int (iI lim), .ref s1, .ref s2, .int (iI bs), .int (iI P), .int (iI sm)])), (fl, .inr (0, [.int (iI C), .int (iI R), .ref pn, .int (iI np)])), (pn, .inl (cI, 49, .inl (aI gn))), (s1, .inr (1, [.ref d1, .ref r1, .int (iI c1)])), (d1, .inl (cI, 16807, .inl (aI g1)))]) (n := 2) hx hb (hml.trans hl.1.symm) hts hown hK hP hD hS hA (c_X1_reach l D cI cJ s2 d2 r2 fc f fh (astZ C R N L lim (bsAt S i.toNat) dd) (bsAt S i.toNat) (bsK (astZ C R N L lim) S (bsAt S i.toNat) dd.toNat) hsq (by omega) (by omega) (by omega) (by omega) (by omega) (by omega) hln9 _) (gd_V q_149 q_150 q_151 q_2 q_152) (by decide +kernel) rfl ⟨Nat.le_of_ble_eq_true rfl, Nat.le_of_ble_eq_true rfl⟩ ⟨Nat.le_of_ble_eq_true rfl, Nat.le_of_ble_eq_true rfl⟩ [5, 6, 7] [0, 1, 2, 3, 4] rfl rfl (by decide) (by decide) (by decide) 5 (ci := 1) rfl rfl rfl rfl (Nat.le_of_ble_eq_true rfl) dX2_nearestPlaceOf_71 (fun u H locs hq_11 hP hD hS => ?_)
                  obtain ⟨g9, h9, c9⟩ := u
                  have hP := hP.sub (ws' := [(tt, .inr (2, [.ref fl, .int (iI lim), .ref s1, .ref s2, .int (iI bs), .int (iI P), .int (iI sm)])), (fl, .inr (0, [.int (iI C), .int (iI R), .ref pn, .int (iI np)])), (pn, .inl (cI, 49, .inl (aI gn))), (s1, .inr (1, [.ref d1, .ref r1, .int (iI c1)])), (d1, .inl (cI, 16807, .inl (aI g1))), (s2, .inr (1, [.ref d2, .ref r2, .int (iI c9)])), (d2, .inl (cI, 16807, .inl (aI g9))), (r2, .inl (cI, 9163, .inl (aI h9)))]) [0, 1, 2, 3, 4, 5, 6, 7] rfl
                  have hD := hD.sub (ws' := [(tt, .inr (2, [.ref fl, .int (iI lim), .ref s1, .ref s2, .int (iI bs), .int (iI P), .int (iI sm)])), (fl, .inr (0, [.int (iI C), .int (iI R), .ref pn, .int (iI np)])), (pn, .inl (cI, 49, .inl (aI gn))), (s1, .inr (1, [.ref d1, .ref r1, .int (iI c1)])), (d1, .inl (cI, 16807, .inl (aI g1))), (s2, .inr (1, [.ref d2, .ref r2, .int (iI c9)])), (d2, .inl (cI, 16807, .inl (aI g9))), (r2, .inl (cI, 9163, .inl (aI h9)))]) [0, 1, 2, 3, 4, 5, 6, 7] (by decide) rfl
                  try dsimp only at hq_11
                  have hrc := hq_11
                  refine zv_iinc (k := 4) (lv' := [(4, .int (iI (dd + 1))), (0, .ref tt), (1, .int (iI q)), (2, .int (iI i)), (3, .int (iI (bsAt S i.toNat)))]) hx hb dX2_nearestPlaceOf_74 hl rfl (by decide) rfl (fun ls hl => ?_)
                  refine lv_goto (tgt := 53) hx hb dX2_nearestPlaceOf_77 (by decide) ?_
                  exact ih53 (dd + 1) g9 h9 c9 (by omega) (by omega) (by rw [show (dd + 1).toNat = dd.toNat + 1 by omega]; show SpOK (bsR _ (astZ C R N L lim (bsAt S i.toNat) (dd.toNat : Int)) _) _ _ _; rw [Int.toNat_of_nonneg hd0]; exact hrc) (by rw [show (dd + 1).toNat = dd.toNat + 1 by omega]; exact bsR_b hbe) (by omega) _ _ hP hD hS ls (lv_sub hl [1, 2, 3, 4, 0] rfl)
            exact loop53 5 0 g h ct (by omega) (by omega) hsp hbd (by omega) _ _ hP hD hS ls (lv_sub hl [2, 3, 4, 1, 0] rfl)
          · refine lv_iload_n hx hb dX2_nearestPlaceOf_48 rfl (lv_at hl 0 rfl) ?_
            exact MM_iret (g, h, ct) hx hb hr hlk hP hD hS (Nat.le_of_ble_eq_true rfl) (Nat.le_of_ble_eq_true rfl) dX2_nearestPlaceOf_49 (by rw [bsF_q hG (by omega) hil (by assumption)]; exact ⟨rfl, hsp⟩)
  exact loop13 16808 0 (bs0 P) g0 h0 c0 (by omega) (by omega) rfl (BI_0 hPg) hbg (fun z => by show (if z = P then (0 : Int) else -1) < 1; split <;> omega) (by omega) _ _ hP hD hS ls (lv_sub hl [1, 2, 0] rfl)
