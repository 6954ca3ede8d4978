set_option maxRecDepth 100000 in
set_option maxHeartbeats 4000000 in
theorem c_X3_sought (l : Launch) (D : va_G) (cI cJ : ClassId) (mm ac ar al aq ab : Nat) (th C R lim np qb qs wd sm : Int) (gc gr gl gq gb : Nat → Int) (N L : Int → Int) (P q : Int) (hM : MdOK C R np N gc gr) (hL : MLen L gl) (hlm : 1 ≤ lim ∧ lim ≤ 60) (hPg : GdZ C R N P) (hqs : 343 * qs + wd = tauZ P) (hq0 : 0 ≤ q) (hq1 : q < 49) (sz : Nat) : MMi l yX3_sought (.code yX3_sought cX3_sought 6 (some .int)) 4 0 0 [.ref mm, .int (iI q)] D cI cJ [(mm, .inr (3, [.int (iI th), .int (iI C), .int (iI R), .int (iI lim), .int (iI np), .ref ac, .ref ar, .int (iI qb), .int (iI qs), .int (iI wd), .int (iI sm), .ref al, .ref aq, .ref ab])), (ac, .inl (cI, 3, .inl (aI gc))), (ar, .inl (cI, 3, .inl (aI gr))), (al, .inl (cI, 16807, .inl (aI gl))), (aq, .inl (cI, 16807, .inl (aI gq))), (ab, .inl (cI, 16807, .inl (aI gb)))] sz (fun (r : Int) (u : (Nat → Int) × (Nat → Int)) => r = tM (bsF (astZ C R N L lim) (q % 7 * 7 + q / 7) 16807 0 (bs0 P)).1 ∧ MBOK (bsF (astZ C R N L lim) (q % 7 * 7 + q / 7) 16807 0 (bs0 P)).2 u.2 u.1) (fun u : (Nat → Int) × (Nat → Int) => [(mm, .inr (3, [.int (iI th), .int (iI C), .int (iI R), .int (iI lim), .int (iI np), .ref ac, .ref ar, .int (iI qb), .int (iI qs), .int (iI wd), .int (iI sm), .ref al, .ref aq, .ref ab])), (ac, .inl (cI, 3, .inl (aI gc))), (ar, .inl (cI, 3, .inl (aI gr))), (al, .inl (cI, 16807, .inl (aI gl))), (aq, .inl (cI, 16807, .inl (aI u.1))), (ab, .inl (cI, 16807, .inl (aI u.2)))]) := by
  obtain ⟨hC1, hC2, hR1, hR2, hp1, hp2, -, -⟩ := id hM
  obtain ⟨hP0, hP1, -, -, -, -⟩ := id hPg
  have htz := tauZ_of hP0 hP1
  have hLm1 := hL.2.2 (-1) (by omega)
  have hgd : ∀ z d : Int, 0 ≤ d → d ≤ 3 → GdZ C R N z → astZ C R N L lim z d ≠ -1 → GdZ C R N (astZ C R N L lim z d) := fun z d k1 k2 k3 k4 => astZ_gd hM.Fl k3 k1 k2 k4
  refine MM_of (Qc := fun A => QMi D A (fun (r : Int) (u : (Nat → Int) × (Nat → Int)) => r = tM (bsF (astZ C R N L lim) (q % 7 * 7 + q / 7) 16807 0 (bs0 P)).1 ∧ MBOK (bsF (astZ C R N L lim) (q % 7 * 7 + q / 7) 16807 0 (bs0 P)).2 u.2 u.1) (fun u : (Nat → Int) × (Nat → Int) => [(mm, .inr (3, [.int (iI th), .int (iI C), .int (iI R), .int (iI lim), .int (iI np), .ref ac, .ref ar, .int (iI qb), .int (iI qs), .int (iI wd), .int (iI sm), .ref al, .ref aq, .ref ab])), (ac, .inl (cI, 3, .inl (aI gc))), (ar, .inl (cI, 3, .inl (aI gr))), (al, .inl (cI, 16807, .inl (aI gl))), (aq, .inl (cI, 16807, .inl (aI u.1))), (ab, .inl (cI, 16807, .inl (aI u.2)))])) (by decide) rfl (Nat.le_of_ble_eq_true rfl) (fun p e s m below meth c ls A hx hb hr hts hown hlk hml hin hK hP hD hA hS hl => ?_)
  have hl : lv_has ls 6 [(0, .ref mm), (1, .int (iI q))] := hl
  refine zv_iconst hx hb dX3_sought_0 ?_
  refine lv_istore_n (lv' := [(2, .int (iI 0)), (0, .ref mm), (1, .int (iI q))]) hx hb dX3_sought_1 rfl hl (by decide) rfl (fun ls hl => ?_)
  have loop2 : ∀ (nn : Nat) (i : Int) (f : Nat → Int), (0 ≤ i) → (i ≤ 16807) → (∀ k : Nat, (k : Int) < i → f k = -1) → (16807 - i < (nn : Int)) → ∀ (H : Heap) (locs : List Loc), va_P D vwCl [(mm, .inr (3, [.int (iI th), .int (iI C), .int (iI R), .int (iI lim), .int (iI np), .ref ac, .ref ar, .int (iI qb), .int (iI qs), .int (iI wd), .int (iI sm), .ref al, .ref aq, .ref ab])), (ac, .inl (cI, 3, .inl (aI gc))), (ar, .inl (cI, 3, .inl (aI gr))), (al, .inl (cI, 16807, .inl (aI gl))), (aq, .inl (cI, 16807, .inl (aI gq))), (ab, .inl (cI, 16807, .inl (aI f)))] H → va_D A [(mm, .inr (3, [.int (iI th), .int (iI C), .int (iI R), .int (iI lim), .int (iI np), .ref ac, .ref ar, .int (iI qb), .int (iI qs), .int (iI wd), .int (iI sm), .ref al, .ref aq, .ref ab])), (ac, .inl (cI, 3, .inl (aI gc))), (ar, .inl (cI, 3, .inl (aI gr))), (al, .inl (cI, 16807, .inl (aI gl))), (aq, .inl (cI, 16807, .inl (aI gq))), (ab, .inl (cI, 16807, .inl (aI f)))] → va_S A s.heap H locs → ∀ ls : Array Slot, lv_has ls 6 [(0, .ref mm), (1, .int (iI q)), (2, .int (iI i))] → W p l e (rmM 4 0 0) s m [.ref mm, .int (iI q)].toArray below meth c H locs 0 0 (MQ below (QMi D A (fun (r : Int) (u : (Nat → Int) × (Nat → Int)) => r = tM (bsF (astZ C R N L lim) (q % 7 * 7 + q / 7) 16807 0 (bs0 P)).1 ∧ MBOK (bsF (astZ C R N L lim) (q % 7 * 7 + q / 7) 16807 0 (bs0 P)).2 u.2 u.1) (fun u : (Nat → Int) × (Nat → Int) => [(mm, .inr (3, [.int (iI th), .int (iI C), .int (iI R), .int (iI lim), .int (iI np), .ref ac, .ref ar, .int (iI qb), .int (iI qs), .int (iI wd), .int (iI sm), .ref al, .ref aq, .ref ab])), (ac, .inl (cI, 3, .inl (aI gc))), (ar, .inl (cI, 3, .inl (aI gr))), (al, .inl (cI, 16807, .inl (aI gl))), (aq, .inl (cI, 16807, .inl (aI u.1))), (ab, .inl (cI, 16807, .inl (aI u.2)))])) [.ref mm, .int (iI q)].toArray s 0 0 A) (F0 m 2 ls []) := by
    intro nn
    induction nn with
    | zero => intro i f hi0 hi1 hf hms; exfalso; omega
    | succ nn ih2 =>
      intro i f hi0 hi1 hf hms H locs hP hD hS ls hl
      refine lv_iload_n hx hb dX3_sought_2 rfl (lv_at hl 2 rfl) ?_
      refine zv_sipush hx hb dX3_sought_3 (by decide) ?_
      refine zv_icmp_ge hx hb dX3_sought_6 (tgt := 22) (by decide) ⟨by omega, by omega⟩ ⟨by omega, by omega⟩ (fun c_1 => ?_) (fun c_1 => ?_)
      · refine zv_iconst hx hb dX3_sought_22 ?_
        refine lv_istore_n (lv' := [(2, .int (iI 1)), (0, .ref mm), (1, .int (iI q))]) hx hb dX3_sought_23 rfl hl (by decide) rfl (fun ls hl => ?_)
        refine lv_aload_n hx hb dX3_sought_24 rfl (lv_at hl 1 rfl) ?_
        refine va_get (D := D) (ci := 3) (v := .ref aq) (C := RX3) (T := TX3) (N := 14) hx hb hts uX3 hown hK.1 hP 0 rfl rfl 12 (by decide) (hts _ q_538) (fun _ h9 => h9) rfl dX3_sought_25 ?_
        refine zv_iconst hx hb dX3_sought_28 ?_
        refine lv_aload_n hx hb dX3_sought_29 rfl (lv_at hl 1 rfl) ?_
        refine zc_V (As := []) (rest := [.int (iI 0), .ref aq]) (ws := [(mm, .inr (3, [.int (iI th), .int (iI C), .int (iI R), .int (iI lim), .int (iI np), .ref ac, .ref ar, .int (iI qb), .int (iI qs), .int (iI wd), .int (iI sm), .ref al, .ref aq, .ref ab])), (ac, .inl (cI, 3, .inl (aI gc))), (ar, .inl (cI, 3, .inl (aI gr))), (al, .inl (cI, 16807, .inl (aI gl))), (aq, .inl (cI, 16807, .inl (aI gq))), (ab, .inl (cI, 16807, .inl (aI f)))]) (n := 0) hx hb (hml.trans hl.1.symm) hts hown hK hP (c_X3_place l D cI cJ mm ac ar al aq ab th C R lim np qb qs wd sm) (gd_V q_589 q_591 q_1023 q_6 q_592) (by decide +kernel) rfl ⟨Nat.le_of_ble_eq_true rfl, Nat.le_of_ble_eq_true rfl⟩ ⟨Nat.le_of_ble_eq_true rfl, Nat.le_of_ble_eq_true rfl⟩ [0] rfl 0 (ci := 3) rfl rfl rfl rfl (Nat.le_of_ble_eq_true rfl) dX3_sought_30 (fun r_2 hr_2 => ?_)
        subst r_2
        refine zv_top (y := tauZ P) (hqs) ?_
        refine zv_iast hx hb hK.1 hP hD hS 4 0 rfl rfl (by omega) (by omega) (by omega) (ws' := [(mm, .inr (3, [.int (iI th), .int (iI C), .int (iI R), .int (iI lim), .int (iI np), .ref ac, .ref ar, .int (iI qb), .int (iI qs), .int (iI wd), .int (iI sm), .ref al, .ref aq, .ref ab])), (ac, .inl (cI, 3, .inl (aI gc))), (ar, .inl (cI, 3, .inl (aI gr))), (al, .inl (cI, 16807, .inl (aI gl))), (aq, .inl (cI, 16807, .inl (aI (updZ gq 0 (tauZ P))))), (ab, .inl (cI, 16807, .inl (aI f)))]) rfl dX3_sought_33 (fun H locs hP hD hS => ?_)
        refine lv_aload_n hx hb dX3_sought_34 rfl (lv_at hl 1 rfl) ?_
        refine va_get (D := D) (ci := 3) (v := .ref ab) (C := RX3) (T := TX3) (N := 14) hx hb hts uX3 hown hK.1 hP 0 rfl rfl 13 (by decide) (hts _ q_539) (fun _ h9 => h9) rfl dX3_sought_35 ?_
        refine lv_aload_n hx hb dX3_sought_38 rfl (lv_at hl 1 rfl) ?_
        refine va_get (D := D) (ci := 3) (v := .ref aq) (C := RX3) (T := TX3) (N := 14) hx hb hts uX3 hown hK.1 hP 0 rfl rfl 12 (by decide) (hts _ q_538) (fun _ h9 => h9) rfl dX3_sought_39 ?_
        refine zv_iconst hx hb dX3_sought_42 ?_
        refine zv_iald hx hb hK.1 hP 4 0 rfl rfl (by omega) (by omega) (by omega) dX3_sought_43 ?_
        refine zv_top (y := tauZ P) (updZ_s _ _ _) ?_
        refine lv_aload_n hx hb dX3_sought_44 rfl (lv_at hl 1 rfl) ?_
        refine va_get (D := D) (ci := 3) (v := .ref aq) (C := RX3) (T := TX3) (N := 14) hx hb hts uX3 hown hK.1 hP 0 rfl rfl 12 (by decide) (hts _ q_538) (fun _ h9 => h9) rfl dX3_sought_45 ?_
        refine zv_iconst hx hb dX3_sought_48 ?_
        refine zv_iald hx hb hK.1 hP 4 0 rfl rfl (by omega) (by omega) (by omega) dX3_sought_49 ?_
        refine zv_top (y := tauZ P) (updZ_s _ _ _) ?_
        refine zv_iast hx hb hK.1 hP hD hS 5 0 rfl rfl (by omega) (by omega) (by omega) (ws' := [(mm, .inr (3, [.int (iI th), .int (iI C), .int (iI R), .int (iI lim), .int (iI np), .ref ac, .ref ar, .int (iI qb), .int (iI qs), .int (iI wd), .int (iI sm), .ref al, .ref aq, .ref ab])), (ac, .inl (cI, 3, .inl (aI gc))), (ar, .inl (cI, 3, .inl (aI gr))), (al, .inl (cI, 16807, .inl (aI gl))), (aq, .inl (cI, 16807, .inl (aI (updZ gq 0 (tauZ P))))), (ab, .inl (cI, 16807, .inl (aI (updZ f (tauZ P).toNat (tauZ P)))))]) rfl dX3_sought_50 (fun H locs hP hD hS => ?_)
        refine zv_iconst hx hb dX3_sought_51 ?_
        have hm0 : MBOK (bs0 P) _ _ := MBOK_0 (gq := gq) hP0 hP1 (fun k hk => hf k (by omega))
        refine lv_istore_n (lv' := [(3, .int (iI 0)), (2, .int (iI 1)), (0, .ref mm), (1, .int (iI q))]) hx hb dX3_sought_52 rfl hl (by decide) rfl (fun ls hl => ?_)
        have loop53 : ∀ (nn : Nat) (la i : Int) (S : BS) (g : Nat → Int) (h : Nat → Int), (0 ≤ i) → (i ≤ la) → (la = (S.1.length : Int)) → (bsF (astZ C R N L lim) (q % 7 * 7 + q / 7) (16807 - i.toNat) i.toNat S = bsF (astZ C R N L lim) (q % 7 * 7 + q / 7) 16807 0 (bs0 P)) → (BI (astZ C R N L lim) P (GdZ C R N) S i.toNat 0) → (MBOK S h g) → (∀ z, S.2.1 z < (S.1.length : Int)) → (16807 - i < (nn : Int)) → ∀ (H : Heap) (locs : List Loc), va_P D vwCl [(mm, .inr (3, [.int (iI th), .int (iI C), .int (iI R), .int (iI lim), .int (iI np), .ref ac, .ref ar, .int (iI qb), .int (iI qs), .int (iI wd), .int (iI sm), .ref al, .ref aq, .ref ab])), (ac, .inl (cI, 3, .inl (aI gc))), (ar, .inl (cI, 3, .inl (aI gr))), (al, .inl (cI, 16807, .inl (aI gl))), (aq, .inl (cI, 16807, .inl (aI g))), (ab, .inl (cI, 16807, .inl (aI h)))] H → va_D A [(mm, .inr (3, [.int (iI th), .int (iI C), .int (iI R), .int (iI lim), .int (iI np), .ref ac, .ref ar, .int (iI qb), .int (iI qs), .int (iI wd), .int (iI sm), .ref al, .ref aq, .ref ab])), (ac, .inl (cI, 3, .inl (aI gc))), (ar, .inl (cI, 3, .inl (aI gr))), (al, .inl (cI, 16807, .inl (aI gl))), (aq, .inl (cI, 16807, .inl (aI g))), (ab, .inl (cI, 16807, .inl (aI h)))] → va_S A s.heap H locs → ∀ ls : Array Slot, lv_has ls 6 [(0, .ref mm), (1, .int (iI q)), (2, .int (iI la)), (3, .int (iI i))] → W p l e (rmM 4 0 0) s m [.ref mm, .int (iI q)].toArray below meth c H locs 0 0 (MQ below (QMi D A (fun (r : Int) (u : (Nat → Int) × (Nat → Int)) => r = tM (bsF (astZ C R N L lim) (q % 7 * 7 + q / 7) 16807 0 (bs0 P)).1 ∧ MBOK (bsF (astZ C R N L lim) (q % 7 * 7 + q / 7) 16807 0 (bs0 P)).2 u.2 u.1) (fun u : (Nat → Int) × (Nat → Int) => [(mm, .inr (3, [.int (iI th), .int (iI C), .int (iI R), .int (iI lim), .int (iI np), .ref ac, .ref ar, .int (iI qb), .int (iI qs), .int (iI wd), .int (iI sm), .ref al, .ref aq, .ref ab])), (ac, .inl (cI, 3, .inl (aI gc))), (ar, .inl (cI, 3, .inl (aI gr))), (al, .inl (cI, 16807, .inl (aI gl))), (aq, .inl (cI, 16807, .inl (aI u.1))), (ab, .inl (cI, 16807, .inl (aI u.2)))])) [.ref mm, .int (iI q)].toArray s 0 0 A) (F0 m 53 ls []) := by
          intro nn
          induction nn with
          | zero => intro la i S g h hi0 hi1 hla hG hBI hms2 hbd hms; exfalso; (have := gd_len hBI.1 hBI.2.2.2.1); omega
          | succ nn ih53 =>
            intro la i S g h hi0 hi1 hla hG hBI hms2 hbd hms H locs hP hD hS ls hl
            have hln := gd_len hBI.1 hBI.2.2.2.1
            refine lv_iload_n hx hb dX3_sought_53 rfl (lv_at hl 3 rfl) ?_
            refine lv_iload_n hx hb dX3_sought_54 rfl (lv_at hl 2 rfl) ?_
            refine zv_icmp_ge hx hb dX3_sought_55 (tgt := 158) (by decide) ⟨by omega, by omega⟩ ⟨by omega, by omega⟩ (fun c_3 => ?_) (fun c_3 => ?_)
            · refine zv_iconst hx hb dX3_sought_158 ?_
              exact MM_iret (g, h) hx hb hr hlk hP hD hS (Nat.le_of_ble_eq_true rfl) (Nat.le_of_ble_eq_true rfl) dX3_sought_159 (by rw [bsF_e hG (by omega)]; exact ⟨rfl, hms2⟩)
            · have hil : i.toNat < S.1.length := by omega
              have hgf := hBI.2.2.2.1 _ (List.mem_of_getElem? (bsAt_some hil))
              obtain ⟨hf0, hf1, hf2⟩ := hgf.pl
              have htf := tauZ_of hf0 hf1
              have hsqt := sq_tau hf0 hf1 hq0 hq1
              refine lv_aload_n hx hb dX3_sought_58 rfl (lv_at hl 0 rfl) ?_
              refine va_get (D := D) (ci := 3) (v := .ref aq) (C := RX3) (T := TX3) (N := 14) hx hb hts uX3 hown hK.1 hP 0 rfl rfl 12 (by decide) (hts _ q_538) (fun _ h9 => h9) rfl dX3_sought_59 ?_
              refine lv_iload_n hx hb dX3_sought_62 rfl (lv_at hl 3 rfl) ?_
              refine zv_iald hx hb hK.1 hP 4 0 rfl rfl (by omega) (by omega) (by omega) dX3_sought_63 ?_
              refine zv_top (y := tauZ (bsAt S i.toNat)) (hms2.2 _ (by omega)) ?_
              refine zv_sipush hx hb dX3_sought_64 (by decide) ?_
              refine zv_idiv hx hb dX3_sought_67 (by omega) (by omega) (by omega) (by omega) ?_
              refine lv_iload_n hx hb dX3_sought_68 rfl (lv_at hl 1 rfl) ?_
              refine zv_icmp_ne hx hb dX3_sought_69 (tgt := 79) (by decide) ⟨by omega, by omega⟩ ⟨by omega, by omega⟩ (fun c_4 => ?_) (fun c_4 => ?_)
              · have hnq : ¬ bsAt S i.toNat / 343 = q % 7 * 7 + q / 7 := fun k => (by assumption : ¬ tauZ (bsAt S i.toNat) / 343 = q) (hsqt.mpr k)
                refine zv_iconst hx hb dX3_sought_79 ?_
                refine lv_istore (lv' := [(4, .int (iI 0)), (0, .ref mm), (1, .int (iI q)), (2, .int (iI la)), (3, .int (iI i))]) hx hb dX3_sought_80 hl (by decide) rfl (fun ls hl => ?_)
                have loop82 : ∀ (nn : Nat) (la dd : Int) (f : Nat → Int) (fh : Nat → Int), (0 ≤ dd) → (dd ≤ 4) → (la = ((bsK (astZ C R N L lim) S (bsAt S i.toNat) dd.toNat).1.length : Int)) → (MBOK (bsK (astZ C R N L lim) S (bsAt S i.toNat) dd.toNat) fh f) → (∀ z, (bsK (astZ C R N L lim) S (bsAt S i.toNat) dd.toNat).2.1 z < ((bsK (astZ C R N L lim) S (bsAt S i.toNat) dd.toNat).1.length : Int)) → (4 - dd < (nn : Int)) → ∀ (H : Heap) (locs : List Loc), va_P D vwCl [(mm, .inr (3, [.int (iI th), .int (iI C), .int (iI R), .int (iI lim), .int (iI np), .ref ac, .ref ar, .int (iI qb), .int (iI qs), .int (iI wd), .int (iI sm), .ref al, .ref aq, .ref ab])), (ac, .inl (cI, 3, .inl (aI gc))), (ar, .inl (cI, 3, .inl (aI gr))), (al, .inl (cI, 16807, .inl (aI gl))), (aq, .inl (cI, 16807, .inl (aI f))), (ab, .inl (cI, 16807, .inl (aI fh)))] H → va_D A [(mm, .inr (3, [.int (iI th), .int (iI C), .int (iI R), .int (iI lim), .int (iI np), .ref ac, .ref ar, .int (iI qb), .int (iI qs), .int (iI wd), .int (iI sm), .ref al, .ref aq, .ref ab])), (ac, .inl (cI, 3, .inl (aI gc))), (ar, .inl (cI, 3, .inl (aI gr))), (al, .inl (cI, 16807, .inl (aI gl))), (aq, .inl (cI, 16807, .inl (aI f))), (ab, .inl (cI, 16807, .inl (aI fh)))] → va_S A s.heap H locs → ∀ ls : Array Slot, lv_has ls 6 [(0, .ref mm), (1, .int (iI q)), (2, .int (iI la)), (3, .int (iI i)), (4, .int (iI dd))] → W p l e (rmM 4 0 0) s m [.ref mm, .int (iI q)].toArray below meth c H locs 0 0 (MQ below (QMi D A (fun (r : Int) (u : (Nat → Int) × (Nat → Int)) => r = tM (bsF (astZ C R N L lim) (q % 7 * 7 + q / 7) 16807 0 (bs0 P)).1 ∧ MBOK (bsF (astZ C R N L lim) (q % 7 * 7 + q / 7) 16807 0 (bs0 P)).2 u.2 u.1) (fun u : (Nat → Int) × (Nat → Int) => [(mm, .inr (3, [.int (iI th), .int (iI C), .int (iI R), .int (iI lim), .int (iI np), .ref ac, .ref ar, .int (iI qb), .int (iI qs), .int (iI wd), .int (iI sm), .ref al, .ref aq, .ref ab])), (ac, .inl (cI, 3, .inl (aI gc))), (ar, .inl (cI, 3, .inl (aI gr))), (al, .inl (cI, 16807, .inl (aI gl))), (aq, .inl (cI, 16807, .inl (aI u.1))), (ab, .inl (cI, 16807, .inl (aI u.2)))])) [.ref mm, .int (iI q)].toArray s 0 0 A) (F0 m 82 ls []) := by
                  intro nn
                  induction nn with
                  | zero => intro la dd f fh hd0 hd1 hle hsq hbe hms; exfalso; omega
                  | succ nn ih82 =>
                    intro la dd f fh hd0 hd1 hle hsq hbe hms H locs hP hD hS ls hl
                    have hBK := BI_K hBI (bsAt_some hil) (fun d k1 k2 => hgd _ d k1 k2) dd.toNat (by omega)
                    have hKi := bsAt_K (astZ C R N L lim) S (bsAt S i.toNat) dd.toNat hil
                    have hqi := hsq.2 _ hKi.1
                    rw [hKi.2] at hqi
                    have hlk := gd_len hBK.1 hBK.2.2.2.1
                    have hmf := hBK.2.2.1 (bsAt S i.toNat)
                    have hmg : 0 ≤ (bsK (astZ C R N L lim) S (bsAt S i.toNat) dd.toNat).2.1 (bsAt S i.toNat) := by rcases hmf with k | k <;> first | exact k.1 | exact absurd (List.mem_of_getElem? (bsK_at _ _ _ _ _ _ (bsAt_some hil))) k.2
                    have hm := aftZ_ok hM.Fl (d := dd) hgf.pl
                    have hm : aftZ C R N (bsAt S i.toNat) dd = -1 ∨ (0 ≤ aftZ C R N (bsAt S i.toNat) dd ∧ aftZ C R N (bsAt S i.toNat) dd < 16807) := hm.elim Or.inl (fun k => Or.inr ⟨k.1, k.2.1⟩)
                    have htm := tM_b hm
                    refine lv_iload hx hb dX3_sought_82 (lv_at hl 4 rfl) ?_
                    refine zv_iconst hx hb dX3_sought_84 ?_
                    refine zv_icmp_ge hx hb dX3_sought_85 (tgt := 152) (by decide) ⟨by omega, by omega⟩ ⟨by omega, by omega⟩ (fun c_5 => ?_) (fun c_5 => ?_)
                    · have hd4 : dd.toNat = 4 := by omega
                      refine zv_iinc (k := 3) (lv' := [(3, .int (iI (i + 1))), (0, .ref mm), (1, .int (iI q)), (2, .int (iI la)), (4, .int (iI dd))]) hx hb dX3_sought_152 hl rfl (by decide) rfl (fun ls hl => ?_)
                      refine lv_goto (tgt := 53) hx hb dX3_sought_155 (by decide) ?_
                      exact ih53 la (i + 1) (bsK (astZ C R N L lim) S (bsAt S i.toNat) 4) f fh (by omega) (by omega) (by rw [← hd4]; exact hle) (by rw [show (i + 1).toNat = i.toNat + 1 by omega, show 16807 - (i.toNat + 1) = 16806 - i.toNat by omega]; exact bsF_s (by rw [show 16806 - i.toNat + 1 = 16807 - i.toNat by omega]; exact hG) hil hnq) (by rw [show (i + 1).toNat = i.toNat + 1 by omega]; exact BI_i (by rw [← hd4]; exact hBK) (by omega)) (by rw [← hd4]; exact hsq) (by rw [← hd4]; exact hbe) (by omega) _ _ hP hD hS ls (lv_sub hl [1, 2, 3, 0] rfl)
                    · refine lv_aload_n hx hb dX3_sought_88 rfl (lv_at hl 0 rfl) ?_
                      refine lv_aload_n hx hb dX3_sought_89 rfl (lv_at hl 0 rfl) ?_
                      refine va_get (D := D) (ci := 3) (v := .ref aq) (C := RX3) (T := TX3) (N := 14) hx hb hts uX3 hown hK.1 hP 0 rfl rfl 12 (by decide) (hts _ q_538) (fun _ h9 => h9) rfl dX3_sought_90 ?_
                      refine lv_iload_n hx hb dX3_sought_93 rfl (lv_at hl 3 rfl) ?_
                      refine zv_iald hx hb hK.1 hP 4 0 rfl rfl (by omega) (by omega) (by omega) dX3_sought_94 ?_
                      refine zv_top (y := tauZ (bsAt S i.toNat)) (hqi) ?_
                      refine lv_iload hx hb dX3_sought_95 (lv_at hl 4 rfl) ?_
                      refine zc_V (As := [.int (iI (tauZ (bsAt S i.toNat))), .int (iI dd)]) (rest := []) (ws := [(mm, .inr (3, [.int (iI th), .int (iI C), .int (iI R), .int (iI lim), .int (iI np), .ref ac, .ref ar, .int (iI qb), .int (iI qs), .int (iI wd), .int (iI sm), .ref al, .ref aq, .ref ab])), (ac, .inl (cI, 3, .inl (aI gc))), (ar, .inl (cI, 3, .inl (aI gr))), (al, .inl (cI, 16807, .inl (aI gl))), (aq, .inl (cI, 16807, .inl (aI f))), (ab, .inl (cI, 16807, .inl (aI fh)))]) (n := 2) hx hb (hml.trans hl.1.symm) hts hown hK hP (c_X3_after l D cI cJ mm ac ar al aq ab th C R lim np qb qs wd sm gc gr N (tauZ (bsAt S i.toNat)) dd hM (by omega) (by omega) (by omega) (by omega) (by omega)) (gd_V q_489 q_491 q_1015 q_6 q_492) (by decide +kernel) rfl ⟨Nat.le_of_ble_eq_true rfl, Nat.le_of_ble_eq_true rfl⟩ ⟨Nat.le_of_ble_eq_true rfl, Nat.le_of_ble_eq_true rfl⟩ [0, 1, 2] rfl 0 (ci := 3) rfl rfl rfl rfl (Nat.le_of_ble_eq_true rfl) dX3_sought_97 (fun r_6 hr_6 => ?_)
                      subst r_6
                      refine zv_top (y := tM (aftZ C R N (bsAt S i.toNat) dd)) (by rw [tauZ_tauZ hf0 hf1]) ?_
                      refine lv_istore (lv' := [(5, .int (iI (tM (aftZ C R N (bsAt S i.toNat) dd)))), (0, .ref mm), (1, .int (iI q)), (2, .int (iI la)), (3, .int (iI i)), (4, .int (iI dd))]) hx hb dX3_sought_100 hl (by decide) rfl (fun ls hl => ?_)
                      refine lv_aload_n hx hb dX3_sought_102 rfl (lv_at hl 1 rfl) ?_
                      refine lv_iload hx hb dX3_sought_103 (lv_at hl 0 rfl) ?_
                      refine zc_V (As := [.int (iI (tM (aftZ C R N (bsAt S i.toNat) dd)))]) (rest := []) (ws := [(mm, .inr (3, [.int (iI th), .int (iI C), .int (iI R), .int (iI lim), .int (iI np), .ref ac, .ref ar, .int (iI qb), .int (iI qs), .int (iI wd), .int (iI sm), .ref al, .ref aq, .ref ab])), (ac, .inl (cI, 3, .inl (aI gc))), (ar, .inl (cI, 3, .inl (aI gr))), (al, .inl (cI, 16807, .inl (aI gl))), (aq, .inl (cI, 16807, .inl (aI f))), (ab, .inl (cI, 16807, .inl (aI fh)))]) (n := 1) hx hb (hml.trans hl.1.symm) hts hown hK hP (c_X3_isAble l D cI cJ mm ac ar al aq ab th C R lim np qb qs wd sm gc gr gl N L (tM (aftZ C R N (bsAt S i.toNat) dd)) hM hL hlm (by omega) (by omega)) (gd_V q_593 q_595 q_1024 q_6 q_596) (by decide +kernel) rfl ⟨Nat.le_of_ble_eq_true rfl, Nat.le_of_ble_eq_true rfl⟩ ⟨Nat.le_of_ble_eq_true rfl, Nat.le_of_ble_eq_true rfl⟩ [0, 1, 2, 3] rfl 0 (ci := 3) rfl rfl rfl rfl (Nat.le_of_ble_eq_true rfl) dX3_sought_105 (fun r_7 hr_7 => ?_)
                      refine zv_if_eq hx hb dX3_sought_108 (tgt := 146) (by decide) ⟨by omega, by omega⟩ (fun c_8 => ?_) (fun c_8 => ?_)
                      · refine zv_iinc (k := 5) (lv' := [(4, .int (iI (dd + 1))), (5, .int (iI (tM (aftZ C R N (bsAt S i.toNat) dd)))), (0, .ref mm), (1, .int (iI q)), (2, .int (iI la)), (3, .int (iI i))]) hx hb dX3_sought_146 hl rfl (by decide) rfl (fun ls hl => ?_)
                        refine lv_goto (tgt := 82) hx hb dX3_sought_149 (by decide) ?_
                        have hK1 : bsK (astZ C R N L lim) S (bsAt S i.toNat) (dd + 1).toNat = bsR (bsK (astZ C R N L lim) S (bsAt S i.toNat) dd.toNat) (astZ C R N L lim (bsAt S i.toNat) dd) (bsAt S i.toNat) := by rw [show (dd + 1).toNat = dd.toNat + 1 by omega]; show bsR _ (astZ C R N L lim (bsAt S i.toNat) (dd.toNat : Int)) _ = _; rw [Int.toNat_of_nonneg hd0]
                        have hay := ast_no (lim := lim) hLm1 hm (by omega)
                        have hq9 : ¬ (astZ C R N L lim (bsAt S i.toNat) dd ≠ -1 ∧ (bsK (astZ C R N L lim) S (bsAt S i.toNat) dd.toNat).2.1 (astZ C R N L lim (bsAt S i.toNat) dd) = -1) := by omega
                        exact ih82 la (dd + 1) f fh (by omega) (by omega) (by rw [hK1, bsR_no hq9]; exact hle) (by rw [hK1, bsR_no hq9]; exact hsq) (by rw [hK1, bsR_no hq9]; exact hbe) (by omega) _ _ hP hD hS ls (lv_sub hl [2, 3, 4, 5, 0] rfl)
                      · have hay := ast_yes (L := L) (lim := lim) hm (by omega)
                        obtain ⟨hay, hay2⟩ := hay
                        obtain ⟨v9, hv9, hv9b⟩ := hsq.at (y := aftZ C R N (bsAt S i.toNat) dd) (by omega) (by omega) (BI_pa hBK _)
                        rw [show tauZ (aftZ C R N (bsAt S i.toNat) dd) = tM (aftZ C R N (bsAt S i.toNat) dd) by omega] at hv9
                        refine lv_aload_n hx hb dX3_sought_111 rfl (lv_at hl 1 rfl) ?_
                        refine va_get (D := D) (ci := 3) (v := .ref ab) (C := RX3) (T := TX3) (N := 14) hx hb hts uX3 hown hK.1 hP 0 rfl rfl 13 (by decide) (hts _ q_539) (fun _ h9 => h9) rfl dX3_sought_112 ?_
                        refine lv_iload hx hb dX3_sought_115 (lv_at hl 0 rfl) ?_
                        refine zv_iald hx hb hK.1 hP 5 0 rfl rfl (by omega) (by omega) (by omega) dX3_sought_117 ?_
                        refine zv_top (y := v9) (hv9) ?_
                        refine zv_iconst hx hb dX3_sought_118 ?_
                        refine zv_icmp_ne hx hb dX3_sought_119 (tgt := 146) (by decide) ⟨by omega, by omega⟩ ⟨by omega, by omega⟩ (fun c_9 => ?_) (fun c_9 => ?_)
                        · refine zv_iinc (k := 5) (lv' := [(4, .int (iI (dd + 1))), (5, .int (iI (tM (aftZ C R N (bsAt S i.toNat) dd)))), (0, .ref mm), (1, .int (iI q)), (2, .int (iI la)), (3, .int (iI i))]) hx hb dX3_sought_146 hl rfl (by decide) rfl (fun ls hl => ?_)
                          refine lv_goto (tgt := 82) hx hb dX3_sought_149 (by decide) ?_
                          have hK1 : bsK (astZ C R N L lim) S (bsAt S i.toNat) (dd + 1).toNat = bsR (bsK (astZ C R N L lim) S (bsAt S i.toNat) dd.toNat) (astZ C R N L lim (bsAt S i.toNat) dd) (bsAt S i.toNat) := by rw [show (dd + 1).toNat = dd.toNat + 1 by omega]; show bsR _ (astZ C R N L lim (bsAt S i.toNat) (dd.toNat : Int)) _ = _; rw [Int.toNat_of_nonneg hd0]
                          rw [hay] at hK1
                          have hq9 : ¬ ((aftZ C R N (bsAt S i.toNat) dd) ≠ -1 ∧ (bsK (astZ C R N L lim) S (bsAt S i.toNat) dd.toNat).2.1 (aftZ C R N (bsAt S i.toNat) dd) = -1) := by omega
                          exact ih82 la (dd + 1) f fh (by omega) (by omega) (by rw [hK1, bsR_no hq9]; exact hle) (by rw [hK1, bsR_no hq9]; exact hsq) (by rw [hK1, bsR_no hq9]; exact hbe) (by omega) _ _ hP hD hS ls (lv_sub hl [2, 3, 4, 5, 0] rfl)
                        · refine lv_aload_n hx hb dX3_sought_122 rfl (lv_at hl 1 rfl) ?_
                          refine va_get (D := D) (ci := 3) (v := .ref ab) (C := RX3) (T := TX3) (N := 14) hx hb hts uX3 hown hK.1 hP 0 rfl rfl 13 (by decide) (hts _ q_539) (fun _ h9 => h9) rfl dX3_sought_123 ?_
                          refine lv_iload hx hb dX3_sought_126 (lv_at hl 0 rfl) ?_
                          refine lv_aload_n hx hb dX3_sought_128 rfl (lv_at hl 1 rfl) ?_
                          refine va_get (D := D) (ci := 3) (v := .ref aq) (C := RX3) (T := TX3) (N := 14) hx hb hts uX3 hown hK.1 hP 0 rfl rfl 12 (by decide) (hts _ q_538) (fun _ h9 => h9) rfl dX3_sought_129 ?_
                          refine lv_iload_n hx hb dX3_sought_132 rfl (lv_at hl 4 rfl) ?_
                          refine zv_iald hx hb hK.1 hP 4 0 rfl rfl (by omega) (by omega) (by omega) dX3_sought_133 ?_
                          refine zv_top (y := tauZ (bsAt S i.toNat)) (hqi) ?_
                          refine zv_iast hx hb hK.1 hP hD hS 5 0 rfl rfl (by omega) (by omega) (by omega) (ws' := [(mm, .inr (3, [.int (iI th), .int (iI C), .int (iI R), .int (iI lim), .int (iI np), .ref ac, .ref ar, .int (iI qb), .int (iI qs), .int (iI wd), .int (iI sm), .ref al, .ref aq, .ref ab])), (ac, .inl (cI, 3, .inl (aI gc))), (ar, .inl (cI, 3, .inl (aI gr))), (al, .inl (cI, 16807, .inl (aI gl))), (aq, .inl (cI, 16807, .inl (aI f))), (ab, .inl (cI, 16807, .inl (aI (updZ fh (tM (aftZ C R N (bsAt S i.toNat) dd)).toNat (tauZ (bsAt S i.toNat))))))]) rfl dX3_sought_134 (fun H locs hP hD hS => ?_)
                          refine lv_aload_n hx hb dX3_sought_135 rfl (lv_at hl 1 rfl) ?_
                          refine va_get (D := D) (ci := 3) (v := .ref aq) (C := RX3) (T := TX3) (N := 14) hx hb hts uX3 hown hK.1 hP 0 rfl rfl 12 (by decide) (hts _ q_538) (fun _ h9 => h9) rfl dX3_sought_136 ?_
                          refine lv_iload_n hx hb dX3_sought_139 rfl (lv_at hl 3 rfl) ?_
                          refine lv_iload hx hb dX3_sought_140 (lv_at hl 0 rfl) ?_
                          refine zv_iast hx hb hK.1 hP hD hS 4 0 rfl rfl (by omega) (by omega) (by omega) (ws' := [(mm, .inr (3, [.int (iI th), .int (iI C), .int (iI R), .int (iI lim), .int (iI np), .ref ac, .ref ar, .int (iI qb), .int (iI qs), .int (iI wd), .int (iI sm), .ref al, .ref aq, .ref ab])), (ac, .inl (cI, 3, .inl (aI gc))), (ar, .inl (cI, 3, .inl (aI gr))), (al, .inl (cI, 16807, .inl (aI gl))), (aq, .inl (cI, 16807, .inl (aI (updZ f (la).toNat (tM (aftZ C R N (bsAt S i.toNat) dd)))))), (ab, .inl (cI, 16807, .inl (aI (updZ fh (tM (aftZ C R N (bsAt S i.toNat) dd)).toNat (tauZ (bsAt S i.toNat))))))]) rfl dX3_sought_142 (fun H locs hP hD hS => ?_)
                          refine zv_iinc (k := 3) (lv' := [(2, .int (iI (la + 1))), (5, .int (iI (tM (aftZ C R N (bsAt S i.toNat) dd)))), (0, .ref mm), (1, .int (iI q)), (3, .int (iI i)), (4, .int (iI dd))]) hx hb dX3_sought_143 hl rfl (by decide) rfl (fun ls hl => ?_)
                          refine zv_iinc (k := 5) (lv' := [(4, .int (iI (dd + 1))), (2, .int (iI (la + 1))), (5, .int (iI (tM (aftZ C R N (bsAt S i.toNat) dd)))), (0, .ref mm), (1, .int (iI q)), (3, .int (iI i))]) hx hb dX3_sought_146 hl rfl (by decide) rfl (fun ls hl => ?_)
                          refine lv_goto (tgt := 82) hx hb dX3_sought_149 (by decide) ?_
                          have hK1 : bsK (astZ C R N L lim) S (bsAt S i.toNat) (dd + 1).toNat = bsR (bsK (astZ C R N L lim) S (bsAt S i.toNat) dd.toNat) (astZ C R N L lim (bsAt S i.toNat) dd) (bsAt S i.toNat) := by rw [show (dd + 1).toNat = dd.toNat + 1 by omega]; show bsR _ (astZ C R N L lim (bsAt S i.toNat) (dd.toNat : Int)) _ = _; rw [Int.toNat_of_nonneg hd0]
                          have hBd := BI_d hBK (bsK_at _ _ _ _ _ _ (bsAt_some hil)) (by omega) (by omega) (fun k1 k2 => hgd _ _ (by omega) (by omega) k1 k2)
                          rw [Int.toNat_of_nonneg hd0] at hBd
                          rw [hay] at hK1 hBd
                          have hq9 : (aftZ C R N (bsAt S i.toNat) dd) ≠ -1 ∧ (bsK (astZ C R N L lim) S (bsAt S i.toNat) dd.toNat).2.1 (aftZ C R N (bsAt S i.toNat) dd) = -1 := by omega
                          have hR9 := MBOK_R hsq hq9 (by omega) (by omega) hmg
                          have hp9 := (bsAt_push (f := bsAt S i.toNat) hq9).2.2
                          rw [show tauZ (aftZ C R N (bsAt S i.toNat) dd) = tM (aftZ C R N (bsAt S i.toNat) dd) by omega, show (bsK (astZ C R N L lim) S (bsAt S i.toNat) dd.toNat).1.length = la.toNat by omega] at hR9
                          exact ih82 (la + 1) (dd + 1) (updZ f (la).toNat (tM (aftZ C R N (bsAt S i.toNat) dd))) (updZ fh (tM (aftZ C R N (bsAt S i.toNat) dd)).toNat (tauZ (bsAt S i.toNat))) (by omega) (by omega) (by rw [hK1, hp9]; omega) (by rw [hK1]; exact hR9) (by rw [hK1]; exact bsR_b hbe) (by omega) _ _ hP hD hS ls (lv_sub hl [3, 4, 1, 5, 0] rfl)
                exact loop82 5 la 0 g h (by omega) (by omega) hla hms2 hbd (by omega) _ _ hP hD hS ls (lv_sub hl [1, 2, 3, 4, 0] rfl)
              · refine lv_aload_n hx hb dX3_sought_72 rfl (lv_at hl 0 rfl) ?_
                refine va_get (D := D) (ci := 3) (v := .ref aq) (C := RX3) (T := TX3) (N := 14) hx hb hts uX3 hown hK.1 hP 0 rfl rfl 12 (by decide) (hts _ q_538) (fun _ h9 => h9) rfl dX3_sought_73 ?_
                refine lv_iload_n hx hb dX3_sought_76 rfl (lv_at hl 3 rfl) ?_
                refine zv_iald hx hb hK.1 hP 4 0 rfl rfl (by omega) (by omega) (by omega) dX3_sought_77 ?_
                refine zv_top (y := tauZ (bsAt S i.toNat)) (hms2.2 _ (by omega)) ?_
                exact MM_iret (g, h) hx hb hr hlk hP hD hS (Nat.le_of_ble_eq_true rfl) (Nat.le_of_ble_eq_true rfl) dX3_sought_78 (by rw [bsF_q hG (by omega) hil (hsqt.mp (by assumption))]; exact ⟨by show _ = tM (bsAt S i.toNat); unfold tM; rw [if_neg (by omega)], hms2⟩)
        exact loop53 16808 1 0 (bs0 P) (updZ gq 0 (tauZ P)) (updZ f (tauZ P).toNat (tauZ P)) (by omega) (by omega) rfl rfl (BI_0 hPg) hm0 (fun z => by show (if z = P then (0 : Int) else -1) < 1; split <;> omega) (by omega) _ _ hP hD hS ls (lv_sub hl [2, 3, 1, 0] rfl)
      · refine lv_aload_n hx hb dX3_sought_9 rfl (lv_at hl 0 rfl) ?_
        refine va_get (D := D) (ci := 3) (v := .ref ab) (C := RX3) (T := TX3) (N := 14) hx hb hts uX3 hown hK.1 hP 0 rfl rfl 13 (by decide) (hts _ q_539) (fun _ h9 => h9) rfl dX3_sought_10 ?_
        refine lv_iload_n hx hb dX3_sought_13 rfl (lv_at hl 2 rfl) ?_
        refine zv_iconst hx hb dX3_sought_14 ?_
        refine zv_iast hx hb hK.1 hP hD hS 5 0 rfl rfl (by omega) (by omega) (by omega) (ws' := [(mm, .inr (3, [.int (iI th), .int (iI C), .int (iI R), .int (iI lim), .int (iI np), .ref ac, .ref ar, .int (iI qb), .int (iI qs), .int (iI wd), .int (iI sm), .ref al, .ref aq, .ref ab])), (ac, .inl (cI, 3, .inl (aI gc))), (ar, .inl (cI, 3, .inl (aI gr))), (al, .inl (cI, 16807, .inl (aI gl))), (aq, .inl (cI, 16807, .inl (aI gq))), (ab, .inl (cI, 16807, .inl (aI (updZ f (i).toNat (-1)))))]) rfl dX3_sought_15 (fun H locs hP hD hS => ?_)
        refine zv_iinc (k := 2) (lv' := [(2, .int (iI (i + 1))), (0, .ref mm), (1, .int (iI q))]) hx hb dX3_sought_16 hl rfl (by decide) rfl (fun ls hl => ?_)
        refine lv_goto (tgt := 2) hx hb dX3_sought_19 (by decide) ?_
        exact ih2 (i + 1) (updZ f (i).toNat (-1)) (by omega) (by omega) (updZ_to hf (by omega)) (by omega) _ _ hP hD hS ls (lv_sub hl [1, 2, 0] rfl)
  exact loop2 16808 0 gb (by omega) (by omega) (fun k hk => absurd hk (by omega)) (by omega) _ _ hP hD hS ls (lv_sub hl [1, 2, 0] rfl)
