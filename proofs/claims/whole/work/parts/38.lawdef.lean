/-! the law's script; compares that hold -/
section ZR
variable {p : Program} {l : Launch} {e : Env} {R : Room} {s : State} {m : MethodId} {args : Array Value} {below : List Frame} {meth : Method} {c : Code} {H H0 : Heap} {locs : List Loc} {cells slots : Nat} {Q : State → Prop}
variable {cc : ByteArray} {pc : Nat} {ls : Array Slot} {rest : List Value} {A : Nat → Prop}
def sX (xs : Nat → Int32) (k : Nat) : Int := (xs k).toInt
theorem sX_r (xs : Nat → Int32) (k : Nat) : -2147483648 ≤ sX xs k ∧ sX xs k < 2147483648 := iI_InR _
theorem zv_sld (hexec : p.tables.exec = Jvm.exec) (hb : c.code = cc) {b L : Nat} {xs : Nat → Int32} (hX : va_X b L xs s H0) (hbl : b < H0.size) (hbA : ¬ A b) (hS : va_S A H0 H locs) {i : Int} (h0 : 0 ≤ i) (h1 : i < (L : Int)) (hL : L < 2147483648) (hdg : decode cc pc = .ok (.iaload, 1))
    (kk : W p l e R s m args below meth c H locs cells slots Q (F0 m (pc + 1) ls (.int (iI (sX xs i.toNat)) :: rest))) : W p l e R s m args below meth c H locs cells slots Q (F0 m pc ls (.int (iI i) :: .ref b :: rest)) :=
  va_sld hexec hb hX hbl hbA hS (iI_in h0 h1 hL) hdg (by rw [iI_clamp h0 (by omega), iI_of (xs i.toNat)]; exact kk)
theorem zv_slen (hexec : p.tables.exec = Jvm.exec) (hb : c.code = cc) {b L : Nat} {xs : Nat → Int32} (hX : va_X b L xs s H0) (hbl : b < H0.size) (hbA : ¬ A b) (hS : va_S A H0 H locs) (hdg : decode cc pc = .ok (.arraylength, 1))
    (kk : W p l e R s m args below meth c H locs cells slots Q (F0 m (pc + 1) ls (.int (iI (L : Int)) :: rest))) : W p l e R s m args below meth c H locs cells slots Q (F0 m pc ls (.ref b :: rest)) :=
  va_slen hexec hb hX hbl hbA hS hdg (by rw [show Int32.ofNat L = iI (L : Int) from (Int32.ofInt_eq_ofNat).symm]; exact kk)
theorem zv_icmpeqT (hexec : p.tables.exec = Jvm.exec) (hb : c.code = cc) {x y : Int} {off : Int} {tgt : Nat} (hdg : decode cc pc = .ok (.if_icmp .eq off, 3)) (ht : (pc : Int) + off = (tgt : Int)) (hxy : x = y)
    (kt : W p l e R s m args below meth c H locs cells slots Q (F0 m tgt ls rest)) : W p l e R s m args below meth c H locs cells slots Q (F0 m pc ls (.int (iI y) :: .int (iI x) :: rest)) :=
  lv_icmp_eq hexec hb hdg ht (fun _ => kt) (fun h => absurd (by rw [hxy]) h)
theorem zv_iand (hexec : p.tables.exec = Jvm.exec) (hb : c.code = cc) {x y : Int} (hdg : decode cc pc = .ok (.iand, 1))
    (k : ∀ z : Int, -2147483648 ≤ z → z < 2147483648 → W p l e R s m args below meth c H locs cells slots Q (F0 m (pc + 1) ls (.int (iI z) :: rest))) : W p l e R s m args below meth c H locs cells slots Q (F0 m pc ls (.int (iI y) :: .int (iI x) :: rest)) :=
  lv_iand hexec hb hdg (by rw [iI_of (iI x &&& iI y)]; exact k _ (iI_InR _).1 (iI_InR _).2)
end ZR
/-! what holds between the class and the reference before each call of the law -/
def LI (C R lim np bs P sm sn qb qs wd c1 : Int) (N : Int → Int) (gn gc gr g1 h1 gl : Nat → Int) : Prop :=
  FlOK C R np N gn ∧ MdOK C R np N gc gr ∧ GdZ C R N (bs * 343) ∧ (0 ≤ LZ C R N bs P ∧ LZ C R N bs P ≤ lim) ∧ (1 ≤ lim ∧ lim ≤ 60) ∧ SpOK (BF (aftZ C R N) (bs * 343)) g1 h1 c1 ∧ MLen (LZ C R N bs) gl ∧ 343 * qb = tauZ (bs * 343) ∧ 343 * qs + wd = tauZ P ∧ (0 ≤ wd ∧ wd < 343) ∧ sn = sm
section LIS
variable {C R lim np bs P sm sn qb qs wd c1 np2 bs2 P2 sm2 sn2 qb2 qs2 wd2 c2 : Int} {N : Int → Int} {gn gc gr g1 h1 gl gn2 gc2 gr2 g2 h2 gl2 gq2 : Nat → Int}
theorem LI_mv (h : LI C R lim np bs P sm sn qb qs wd c1 N gn gc gr g1 h1 gl) (e1 : P2 = P ∧ sm2 = sm) (e2 : qs2 = qs ∧ wd2 = wd ∧ sn2 = sn) : LI C R lim np bs P2 sm2 sn2 qb qs2 wd2 c1 N gn gc gr g1 h1 gl := by
  obtain ⟨rfl, rfl⟩ := e1
  obtain ⟨rfl, rfl, rfl⟩ := e2
  exact h
theorem LI_go (h : LI C R lim np bs P sm sn qb qs wd c1 N gn gc gr g1 h1 gl) (hP : 0 ≤ LZ C R N bs P2 ∧ LZ C R N bs P2 ≤ lim) (hq : 343 * qs2 + wd2 = tauZ P2) (hw : 0 ≤ wd2 ∧ wd2 < 343) (hs : sn2 = sm2) : LI C R lim np bs P2 sm2 sn2 qb qs2 wd2 c1 N gn gc gr g1 h1 gl := by
  obtain ⟨a1, a2, a3, a4, a5, a6, a7, a8, a9, a10, a11⟩ := h
  exact ⟨a1, a2, a3, hP, a5, a6, a7, a8, hq, hw, hs⟩
theorem LI_pn (h : LI C R lim np bs P sm sn qb qs wd c1 N gn gc gr g1 h1 gl) {gq gq2 : Nat → Int} {np3 : Int} (e1 : np2 = np ∧ gn2 = gn ∧ g2 = g1 ∧ h2 = h1 ∧ c2 = c1) (e2 : np3 = np ∧ gc2 = gc ∧ gr2 = gr ∧ gl2 = gl ∧ gq2 = gq) : np3 = np2 ∧ LI C R lim np2 bs P sm sn qb qs wd c2 N gn2 gc2 gr2 g2 h2 gl2 := by
  obtain ⟨rfl, rfl, rfl, rfl, rfl⟩ := e1
  obtain ⟨rfl, rfl, rfl, rfl, rfl⟩ := e2
  exact ⟨rfl, h⟩
theorem LI_pl (h : LI C R lim np bs P sm sn qb qs wd c1 N gn gc gr g1 h1 gl) {a b : Int} {np3 : Int} (hs : 0 ≤ a ∧ a < C ∧ 0 ≤ b ∧ b < R) (ht : ¬ (np = 3 ∨ P ≠ bs * 343 ∨ a * 7 + b = bs ∨ N (a * 7 + b) ≠ -1))
    (e1 : np2 = np + 1 ∧ gn2 = updZ gn (a * 7 + b).toNat np ∧ SpOK (BF (aftZ C R (NZ N (a * 7 + b) np)) (bs * 343)) g2 h2 c2) (e2 : np3 = np + 1 ∧ gc2 = updZ gc np.toNat a ∧ gr2 = updZ gr np.toNat b ∧ MSOK (BF (aftZ C R (NZ N (a * 7 + b) np)) (bs * 343)) gl2 gq2) : np3 = np2 ∧ LI C R lim np2 bs P sm sn qb qs wd c2 (NZ N (a * 7 + b) np) gn2 gc2 gr2 g2 h2 gl2 := by
  obtain ⟨a1, a2, a3, a4, a5, a6, a7, a8, a9, a10, a11⟩ := h
  obtain ⟨rfl, rfl, k1⟩ := e1
  obtain ⟨rfl, rfl, rfl, k2⟩ := e2
  have hP : P = bs * 343 := by omega
  obtain ⟨b1, b2, b3, b4, b5, b6, -, -⟩ := id a1
  have hF2 := FlOK_set a1 (q := a * 7 + b) (by omega) (by omega) (by omega)
  have hb2 := GdZ_set (k := np) a3 (q := a * 7 + b) (by omega)
  refine ⟨rfl, hF2, MdOK_set a2 (by omega) hs.1 hs.2.1 hs.2.2.1 hs.2.2.2 (by omega), hb2, ?_, a5, k1, k2.1, a8, a9, a10, a11⟩
  rw [hP, LZ_0 hF2 hb2]
  omega
theorem LI_bn (h : LI C R lim np bs P sm sn qb qs wd c1 N gn gc gr g1 h1 gl) {gq gq2 : Nat → Int} (e1 : bs2 = bs ∧ P2 = P ∧ sm2 = sm ∧ g2 = g1 ∧ h2 = h1 ∧ c2 = c1) (e2 : qb2 = qb ∧ qs2 = qs ∧ wd2 = wd ∧ sn2 = sn ∧ gl2 = gl ∧ gq2 = gq) : LI C R lim np bs2 P2 sm2 sn2 qb2 qs2 wd2 c2 N gn gc gr g2 h2 gl2 := by
  obtain ⟨rfl, rfl, rfl, rfl, rfl, rfl⟩ := e1
  obtain ⟨rfl, rfl, rfl, rfl, rfl, rfl⟩ := e2
  exact h
theorem LI_ba (h : LI C R lim np bs P sm sn qb qs wd c1 N gn gc gr g1 h1 gl) {a b : Int} (hs : 0 ≤ a ∧ a < C ∧ 0 ≤ b ∧ b < R) (hn : N (a * 7 + b) = -1)
    (e1 : bs2 = a * 7 + b ∧ P2 = (a * 7 + b) * 343 ∧ sm2 = 0 ∧ SpOK (BF (aftZ C R N) ((a * 7 + b) * 343)) g2 h2 c2) (e2 : qb2 = 7 * b + a ∧ qs2 = 7 * b + a ∧ wd2 = 0 ∧ sn2 = 0 ∧ MSOK (BF (aftZ C R N) ((a * 7 + b) * 343)) gl2 gq2) : LI C R lim np bs2 P2 sm2 sn2 qb2 qs2 wd2 c2 N gn gc gr g2 h2 gl2 := by
  obtain ⟨a1, a2, a3, a4, a5, a6, a7, a8, a9, a10, a11⟩ := h
  obtain ⟨rfl, rfl, rfl, k1⟩ := e1
  obtain ⟨rfl, rfl, rfl, rfl, k2⟩ := e2
  obtain ⟨b1, b2, b3, b4, b5, b6, -, -⟩ := id a1
  have hb2 := GdZ_mk b2 b4 hs.1 hs.2.1 hs.2.2.1 hs.2.2.2 hn
  have ht : 343 * (7 * b + a) = tauZ ((a * 7 + b) * 343) := by unfold tauZ; omega
  exact ⟨a1, a2, hb2, by rw [LZ_0 a1 hb2]; omega, a5, k1, k2.1, ht, by omega, by omega, rfl⟩
end LIS
def LInv (cI cJ : ClassId) (tt fl pn s1 d1 r1 s2 d2 r2 mm ac ar al aq ab ow : Nat) (C R lim : Int) (ws : va_W) : Prop :=
  ∃ (np bs P sm sn qb qs wd c1 c2 th : Int) (N : Int → Int) (gn g1 h1 g2 h2 gc gr gl gq gb : Nat → Int) (lf : Nat → Int64), LI C R lim np bs P sm sn qb qs wd c1 N gn gc gr g1 h1 gl ∧
    ws = [(tt, .inr (2, [.ref fl, .int (iI lim), .ref s1, .ref s2, .int (iI bs), .int (iI P), .int (iI sm)])), (fl, .inr (0, [.int (iI C), .int (iI R), .ref pn, .int (iI np)])), (pn, .inl (cI, 49, .inl (aI gn))), (s1, .inr (1, [.ref d1, .ref r1, .int (iI c1)])), (d1, .inl (cI, 16807, .inl (aI g1))), (r1, .inl (cI, 9163, .inl (aI h1))), (s2, .inr (1, [.ref d2, .ref r2, .int (iI c2)])), (d2, .inl (cI, 16807, .inl (aI g2))), (r2, .inl (cI, 9163, .inl (aI h2))),
      (mm, .inr (3, [.int (iI th), .int (iI C), .int (iI R), .int (iI lim), .int (iI np), .ref ac, .ref ar, .int (iI qb), .int (iI qs), .int (iI wd), .int (iI sn), .ref al, .ref aq, .ref ab])), (ac, .inl (cI, 3, .inl (aI gc))), (ar, .inl (cI, 3, .inl (aI gr))), (al, .inl (cI, 16807, .inl (aI gl))), (aq, .inl (cI, 16807, .inl (aI gq))), (ab, .inl (cI, 16807, .inl (aI gb))), (ow, .inl (cJ, 1, .inr (.inl lf)))]
theorem ast_in {C R np : Int} {N : Int → Int} {gn : Nat → Int} {b lim z d : Int} (hF : FlOK C R np N gn) (hb : GdZ C R N (b * 343)) (h : astZ C R N (LZ C R N b) lim z d ≠ -1) : 0 ≤ LZ C R N b (astZ C R N (LZ C R N b) lim z d) ∧ LZ C R N b (astZ C R N (LZ C R N b) lim z d) ≤ lim := by
  have h2 := LZ_b hF hb (astZ C R N (LZ C R N b) lim z d)
  unfold astZ at h h2 ⊢
  split at h
  · rename_i hc
    rw [if_pos hc] at h2 ⊢
    exact ⟨by omega, hc.2⟩
  · exact absurd rfl h
theorem go_in {C R np : Int} {N : Int → Int} {gn : Nat → Int} {b lim P q : Int} (hF : FlOK C R np N gn) (hb : GdZ C R N (b * 343)) (hP : 0 ≤ LZ C R N b P) (hPl : LZ C R N b P ≤ lim) (h : (bsF (astZ C R N (LZ C R N b) lim) q 16807 0 (bs0 P)).1 ≠ -1) : 0 ≤ LZ C R N b (bsF (astZ C R N (LZ C R N b) lim) q 16807 0 (bs0 P)).1 ∧ LZ C R N b (bsF (astZ C R N (LZ C R N b) lim) q 16807 0 (bs0 P)).1 ≤ lim := by
  obtain ⟨k, hB, hX⟩ := go_ok hF hb hP hPl (q := q)
  rcases hX with hX | ⟨hX, -⟩
  · exact absurd hX h
  · exact (hB.2.2.2.1 _ hX).2
