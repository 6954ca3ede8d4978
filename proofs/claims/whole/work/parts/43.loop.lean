/-! the script's first cells -/
def clS (xs : Nat → Int32) (L k : Nat) : Int := if k < L then sX xs k else 0
theorem clS_r (xs : Nat → Int32) (L k : Nat) : -2147483648 ≤ clS xs L k ∧ clS xs L k < 2147483648 := by
  unfold clS
  split
  · exact sX_r xs k
  · omega
def SPre (b L : Nat) (xs : Nat → Int32) : State → Prop := fun U => va_X b L xs U U.heap ∧ b < U.heap.size
theorem SPre_blind {As : List Value} {b L : Nat} {xs : Nat → Int32} : FrameBlind (va_Pc As (SPre b L xs)) := fun a U g mk q => ⟨q.1, va_X.moved (u := U) (U := U.calling g mk a) (Vm.Alike.refl U.vm) q.2.1, q.2.2⟩
theorem c_L_cell (l : Launch) (b L : Nat) (xs : Nat → Int32) (hL : L < 2147483648) (k : Nat) (hk : k < 3) : Met l yL_cell (.code yL_cell cL_cell 2 (some .int) :: GW) (lvl 0) (va_Pc [.ref b, .int (iI (k : Int))] (SPre b L xs)) (PQ (fun r => r = clS xs L k)) 0 0 (fun _ => False) := by
  refine Met.ofW (cc := cL_cell) (maxL := 2) (ret := some .int) (by decide) rfl ?_
  intro p e s m args below meth c s₁ B hml hv
  obtain ⟨rfl, hX, hbl⟩ := hv
  have hl := lv_entry [.ref b, .int (iI (k : Int))] (n := 2) (Nat.le_of_ble_eq_true rfl)
  rw [lg_entry_eq]
  have hx := B.exec
  have hb := B.bytes
  have hS : va_S (fun _ => False) s.heap s.heap [] := va_S.rf
  generalize (lg_sl ([.ref b, .int (iI (k : Int))]) ++ List.replicate (2 - (lg_sl ([.ref b, .int (iI (k : Int))])).length) Slot.unset).toArray = ls at hl ⊢
  have hl : lv_has ls 2 [(0, .ref b), (1, .int (iI (k : Int)))] := hl
  refine lv_iload_n hx hb dL_cell_0 rfl (lv_at hl 1 rfl) ?_
  refine lv_aload_n hx hb dL_cell_1 rfl (lv_at hl 0 rfl) ?_
  refine zv_slen hx hb hX hbl (fun h => h) hS dL_cell_2 ?_
  refine zv_icmp_ge hx hb dL_cell_3 (tgt := 12) (by decide) ⟨by omega, by omega⟩ ⟨by omega, by omega⟩ (fun c_1 => ?_) (fun c_1 => ?_)
  · refine zv_iconst hx hb dL_cell_12 ?_
    exact PM_iret hx hb B.returns B.notSynchronized dL_cell_13 (by unfold clS; rw [if_neg (by omega)])
  · refine lv_aload_n hx hb dL_cell_6 rfl (lv_at hl 0 rfl) ?_
    refine lv_iload_n hx hb dL_cell_7 rfl (lv_at hl 1 rfl) ?_
    refine zv_sld hx hb hX hbl (fun h => h) hS (by omega) (by omega) hL dL_cell_8 ?_
    refine lv_goto (tgt := 13) hx hb dL_cell_9 (by decide) ?_
    exact PM_iret hx hb B.returns B.notSynchronized dL_cell_13 (by unfold clS; rw [if_pos (by omega), Int.toNat_natCast])
section ZC
variable {p : Program} {l : Launch} {e : Env} {R : Room} {s : State} {m : MethodId} {args : Array Value} {below : List Frame} {meth : Method} {c : Code} {H : Heap} {locs : List Loc} {cells slots : Nat} {Q : State → Prop}
variable {cc : ByteArray} {pc : Nat} {ls : Array Slot} {rest : List Value} {D : va_G} {cI cJ : ClassId} {A : Nat → Prop}
theorem zx_cell {b L k : Nat} {xs : Nat → Int32} (hexec : p.tables.exec = Jvm.exec) (hb : c.code = cc) (hml : c.maxLocals = ls.size) (hts : ∀ w ∈ GW, w.before args s = true) (hown : s.vm.findClass RL = some m.cls) (hX : va_X b L xs s s.heap) (hbl : b < s.heap.size) (hbA : ¬ A b) (hS : va_S A s.heap H locs) (hL : L < 2147483648) (hk : k < 3) (hR : 1 ≤ R.frames ∧ 21 ≤ R.locals) (hf : cells ≤ R.cells ∧ slots ≤ R.slots) (hW : (rest.map fun v => v.category).sum ≤ 8) (hdg : decode cc pc = .ok (.invokestatic 53, 3))
    (kk : W p l e R s m args below meth c H locs cells slots Q (F0 m (pc + 3) ls (.int (iI (clS xs L k)) :: rest))) : W p l e R s m args below meth c H locs cells slots Q (F0 m pc ls (.int (iI (k : Int)) :: .ref b :: rest)) := by
  refine PM_goes (y := yL_cell) (cd := .code yL_cell cL_cell 2 (some .int)) (k := 0) (As := [.ref b, .int (iI (k : Int))]) (ws := []) (va_runS (As := [.ref b, .int (iI (k : Int))]) (rest := rest) (nL := ls.size) ⟨hexec, hb, hml, hown, hts⟩ (c_L_cell l b L xs hL k hk) (cwS 2 hts (gd_S q_232 q_233 q_0 q_234) rfl rfl rfl (by decide +kernel) (by show 0 + 1 ≤ R.frames ∧ 8 + (2 + 11) + 0 ≤ R.locals; omega)) ⟨SPre_blind, fun U hU hW => ⟨rfl, ?_⟩⟩ rfl rfl rfl rfl (lv_room hW) hdg hf) (fun r hr => by rw [hr]; exact kk)
  show va_X b L xs U U.heap ∧ b < U.heap.size
  rw [hU]
  exact ⟨va_X.moved hW.alike (hX.kept (hS.2.1 b hbl hbA)), Nat.lt_of_lt_of_le hbl hS.1⟩
/-- a long array of one cell is made -/
theorem zm_newl (hexec : p.tables.exec = Jvm.exec) (hb : c.code = cc) (harr : (Cond.arrayClass .long).before args s = true) (hK : KK D cI cJ s) {ws : va_W} (hP : va_P D vwCl ws H) (hD : va_D A ws) (hS : va_S A s.heap H locs) (hA : ∀ q : Nat, s.heap.size ≤ q → A q) (hcells : cells + 1 ≤ R.cells) (hslots : slots + 1 ≤ R.slots) (hdg : decode cc pc = .ok (.newarray .long, 2))
    (kk : ∀ (q : Nat) (H1 : Heap), va_P D vwCl (ws ++ [(q, .inl (cJ, 1, .inr (.inl (fun _ => 0))))]) H1 → va_D A (ws ++ [(q, .inl (cJ, 1, .inr (.inl (fun _ => 0))))]) → va_S A s.heap H1 locs →
      W p l e R s m args below meth c H1 locs (cells + 1) (slots + 1) Q (F0 m (pc + 2) ls (.ref q :: rest))) : W p l e R s m args below meth c H locs cells slots Q (F0 m pc ls (.int (iI 1) :: rest)) := by
  refine va_newa (atype := .long) hexec hb harr rfl hK.1 hP hD hS hA (N' := 1) (a0 := (1, .inr (.inl (fun _ => 0)))) (fun cA => rfl) (by decide) (by decide) (by decide) hcells hslots hdg (fun q cA H1 k1 k2 k3 k4 => ?_)
  have e1 : s.vm.findClass ("[" ++ (FieldType.long).toString) = some cJ := (hK.1.2 1 (cJ, .long) rfl).2
  have e2 : s.vm.findClass ("[" ++ (FieldType.long).toString) = some cA := (k1.2 2 (cA, .long) rfl).2
  have e3 : cA = cJ := Option.some.inj (e2.symm.trans e1)
  subst e3
  exact kk q H1 k2 k3 k4
end ZC

set_option maxRecDepth 100000 in
set_option maxHeartbeats 8000000 in
theorem law_loop {p : Program} {e : Env} {s : State} {m : MethodId} {below : List Frame} {meth : Method} {c : Code} (l : Launch) (hl0 : l.stackTraces = false) {b L : Nat} {xs : Nat → Int32} (hL9 : L ≤ 1539) (C0 : lw_At p s m meth c b L xs) (A : Nat → Prop) (hA : ∀ q : Nat, s.heap.size ≤ q → A q) (hbA : ¬ A b) (D : va_G) (cI cJ : ClassId) (hK : KK D cI cJ s) (hE : EX A s s.heap) (tt fl pn s1 d1 r1 s2 d2 r2 mm ac ar al aq ab ow : Nat) (C R lim : Int) (hA2 : ∀ q : Nat, A q → s.heap.size ≤ q) : ∀ (nn : Nat) (i : Int) (cs ss : Nat) (ws : va_W), 3 ≤ i → i ≤ 5000 → (L : Int) - i < (nn : Int) → cs + 2 * nn ≤ 601024 → ss + 12 * nn ≤ 7292999 → LInv cI cJ tt fl pn s1 d1 r1 s2 d2 r2 mm ac ar al aq ab ow C R lim ws → ∀ (H : Heap) (locs : List Loc) (ls : Array Slot), va_P D vwCl ws H → va_D A ws → va_S A s.heap H locs → lv_has ls 7 [(4, .int (iI i)), (3, .ref ow), (2, .ref mm), (1, .ref tt), (0, .ref b)] → W p l e room_1 s m #[Value.ref b] below meth c H locs cs ss (lw_Z below #[Value.ref b] s) (F0 m 53 ls []) := by
  obtain ⟨hx, hb, hr, hml, hown0, htbl, hX, hbl, hlk, hgv⟩ := id C0
  have hout : ∀ (i : Int) (cs ss : Nat), (cs ≤ 601024 ∧ ss ≤ 7292999) → (L : Int) - 3 < i → ∀ (H : Heap) (locs : List Loc) (ls : Array Slot), va_S A s.heap H locs → W p l e room_1 s m #[Value.ref b] below meth c H locs cs ss (lw_Z below #[Value.ref b] s) (F0 m 938 ls []) := by
    intro i cs ss hc hi H locs ls hS
    refine va_forget (fun q hq => hA2 _ (hS.2.2 q hq)) ?_
    refine W.widen (k := 601024) (n := 7292999) hc.1 hc.2 ?_
    refine lv_iconst (v := 1) hx hb dL_law_938 (by decide) ?_
    exact lw_ret hx hb hr hlk dL_law_939
  have hhead : ∀ (i : Int) (cs ss : Nat) (H : Heap) (locs : List Loc) (ls : Array Slot), 3 ≤ i → i ≤ 5000 → va_S A s.heap H locs → lv_has ls 7 [(4, .int (iI i)), (3, .ref ow), (2, .ref mm), (1, .ref tt), (0, .ref b)] → (cs ≤ 601024 ∧ ss ≤ 7292999) → ((i ≤ (L : Int) - 3) → ∀ z : Int, -2147483648 ≤ z → z < 2147483648 → W p l e room_1 s m #[Value.ref b] below meth c H locs cs ss (lw_Z below #[Value.ref b] s) (F0 m 69 ls [.int (iI z)])) → W p l e room_1 s m #[Value.ref b] below meth c H locs cs ss (lw_Z below #[Value.ref b] s) (F0 m 53 ls []) := by
    intro i cs ss H locs ls hi0 hi9 hS hl hc kz
    refine lv_iload hx hb dL_law_53 (lv_at hl 0 rfl) ?_
    refine lv_aload_n hx hb dL_law_55 rfl (lv_at hl 4 rfl) ?_
    refine zv_slen hx hb hX hbl hbA hS dL_law_56 ?_
    refine zv_iconst hx hb dL_law_57 ?_
    refine zv_isub hx hb dL_law_58 ?_
    refine zv_icmp_gt hx hb dL_law_59 (tgt := 938) (by decide) ⟨by omega, by omega⟩ ⟨by omega, by omega⟩ (fun c_1 => ?_) (fun c_1 => ?_)
    · exact hout i cs ss hc c_1 H locs ls hS
    · refine lv_aload_n hx hb dL_law_62 rfl (lv_at hl 4 rfl) ?_
      refine lv_iload hx hb dL_law_63 (lv_at hl 0 rfl) ?_
      refine zv_sld hx hb hX hbl hbA hS (by omega) (by omega) (by omega) dL_law_65 ?_
      refine zv_bipush hx hb dL_law_66 (by decide) ?_
      refine zv_iand hx hb dL_law_68 (fun z hz0 hz1 => ?_)
      exact kz (by omega) z hz0 hz1
  intro nn
  induction nn with
  | zero =>
    intro i cs ss ws hi0 hi9 hnn hcs hss hI H locs ls hP hD hS hl
    exact hhead i cs ss H locs ls hi0 hi9 hS hl ⟨by omega, by omega⟩ (fun hi1 => absurd hi1 (by omega))
  | succ nn ih =>
    intro i cs ss ws hi0 hi9 hnn hcs hss hI H locs ls hP hD hS hl
    obtain ⟨np, bs, P, sm, sn, qb, qs, wd, c1, c2, th, N, gn, g1, h1, g2, h2, gc, gr, gl, gq, gb, lf, hLI, rfl⟩ := hI
    have kk : i ≤ (L : Int) - 3 → ∀ (ws : va_W) (H : Heap) (locs : List Loc) (ls : Array Slot), LInv cI cJ tt fl pn s1 d1 r1 s2 d2 r2 mm ac ar al aq ab ow C R lim ws → va_P D vwCl ws H → va_D A ws → va_S A s.heap H locs → lv_has ls 7 [(4, .int (iI i)), (3, .ref ow), (2, .ref mm), (1, .ref tt), (0, .ref b)] → W p l e room_1 s m #[Value.ref b] below meth c H locs (cs + 2) (ss + 12) (lw_Z below #[Value.ref b] s) (F0 m 932 ls []) := by
      intro hi1 ws H locs ls hI hP hD hS hl
      refine zv_iinc (k := 0) (lv' := [(4, .int (iI (i + 3))), (3, .ref ow), (2, .ref mm), (1, .ref tt), (0, .ref b)]) hx hb dL_law_932 hl rfl (by decide) rfl (fun ls hl => ?_)
      refine lv_goto (tgt := 53) hx hb dL_law_935 (by decide) ?_
      exact ih (i + 3) (cs + 2) (ss + 12) ws (by omega) (by omega) (by omega) (by omega) (by omega) hI H locs ls hP hD hS hl
    refine hhead i cs ss H locs ls hi0 hi9 hS hl ⟨by omega, by omega⟩ (fun hi1 z hz0 hz1 => ?_)
    by_cases hz : 0 ≤ z ∧ z ≤ 18
    · rcases (show z = 0 ∨ z = 1 ∨ z = 2 ∨ z = 3 ∨ z = 4 ∨ z = 5 ∨ z = 6 ∨ z = 7 ∨ z = 8 ∨ z = 9 ∨ z = 10 ∨ z = 11 ∨ z = 12 ∨ z = 13 ∨ z = 14 ∨ z = 15 ∨ z = 16 ∨ z = 17 ∨ z = 18 by omega) with rfl | rfl | rfl | rfl | rfl | rfl | rfl | rfl | rfl | rfl | rfl | rfl | rfl | rfl | rfl | rfl | rfl | rfl | rfl
      · refine zv_tableIn (tgt := 160) hx hb dL_law_69 ⟨by decide, by decide⟩ (by decide) (by decide) rfl (by decide) ?_
        exact law_0 l hl0 hL9 C0 A hA hbA D cI cJ hK hE tt fl pn s1 d1 r1 s2 d2 r2 mm ac ar al aq ab ow C R lim np bs P sm sn qb qs wd c1 c2 th N gn g1 h1 g2 h2 gc gr gl gq gb lf hLI i hi0 hi1 cs ss (by omega) (by omega) H locs hP hD hS ls hl (kk hi1)
      · refine zv_tableIn (tgt := 228) hx hb dL_law_69 ⟨by decide, by decide⟩ (by decide) (by decide) rfl (by decide) ?_
        exact law_1 l hl0 hL9 C0 A hA hbA D cI cJ hK hE tt fl pn s1 d1 r1 s2 d2 r2 mm ac ar al aq ab ow C R lim np bs P sm sn qb qs wd c1 c2 th N gn g1 h1 g2 h2 gc gr gl gq gb lf hLI i hi0 hi1 cs ss (by omega) (by omega) H locs hP hD hS ls hl (kk hi1)
      · refine zv_tableIn (tgt := 276) hx hb dL_law_69 ⟨by decide, by decide⟩ (by decide) (by decide) rfl (by decide) ?_
        exact law_2 l hl0 hL9 C0 A hA hbA D cI cJ hK hE tt fl pn s1 d1 r1 s2 d2 r2 mm ac ar al aq ab ow C R lim np bs P sm sn qb qs wd c1 c2 th N gn g1 h1 g2 h2 gc gr gl gq gb lf hLI i hi0 hi1 cs ss (by omega) (by omega) H locs hP hD hS ls hl (kk hi1)
      · refine zv_tableIn (tgt := 332) hx hb dL_law_69 ⟨by decide, by decide⟩ (by decide) (by decide) rfl (by decide) ?_
        exact law_3 l hl0 hL9 C0 A hA hbA D cI cJ hK hE tt fl pn s1 d1 r1 s2 d2 r2 mm ac ar al aq ab ow C R lim np bs P sm sn qb qs wd c1 c2 th N gn g1 h1 g2 h2 gc gr gl gq gb lf hLI i hi0 hi1 cs ss (by omega) (by omega) H locs hP hD hS ls hl (kk hi1)
      · refine zv_tableIn (tgt := 400) hx hb dL_law_69 ⟨by decide, by decide⟩ (by decide) (by decide) rfl (by decide) ?_
        exact law_4 l hl0 hL9 C0 A hA hbA D cI cJ hK hE tt fl pn s1 d1 r1 s2 d2 r2 mm ac ar al aq ab ow C R lim np bs P sm sn qb qs wd c1 c2 th N gn g1 h1 g2 h2 gc gr gl gq gb lf hLI i hi0 hi1 cs ss (by omega) (by omega) H locs hP hD hS ls hl (kk hi1)
      · refine zv_tableIn (tgt := 456) hx hb dL_law_69 ⟨by decide, by decide⟩ (by decide) (by decide) rfl (by decide) ?_
        exact law_5 l hl0 hL9 C0 A hA hbA D cI cJ hK hE tt fl pn s1 d1 r1 s2 d2 r2 mm ac ar al aq ab ow C R lim np bs P sm sn qb qs wd c1 c2 th N gn g1 h1 g2 h2 gc gr gl gq gb lf hLI i hi0 hi1 cs ss (by omega) (by omega) H locs hP hD hS ls hl (kk hi1)
      · refine zv_tableIn (tgt := 469) hx hb dL_law_69 ⟨by decide, by decide⟩ (by decide) (by decide) rfl (by decide) ?_
        exact law_6 l hl0 hL9 C0 A hA hbA D cI cJ hK hE tt fl pn s1 d1 r1 s2 d2 r2 mm ac ar al aq ab ow C R lim np bs P sm sn qb qs wd c1 c2 th N gn g1 h1 g2 h2 gc gr gl gq gb lf hLI i hi0 hi1 cs ss (by omega) (by omega) H locs hP hD hS ls hl (kk hi1)
      · refine zv_tableIn (tgt := 482) hx hb dL_law_69 ⟨by decide, by decide⟩ (by decide) (by decide) rfl (by decide) ?_
        exact law_7 l hl0 hL9 C0 A hA hbA D cI cJ hK hE tt fl pn s1 d1 r1 s2 d2 r2 mm ac ar al aq ab ow C R lim np bs P sm sn qb qs wd c1 c2 th N gn g1 h1 g2 h2 gc gr gl gq gb lf hLI i hi0 hi1 cs ss (by omega) (by omega) H locs hP hD hS ls hl (kk hi1)
      · refine zv_tableIn (tgt := 495) hx hb dL_law_69 ⟨by decide, by decide⟩ (by decide) (by decide) rfl (by decide) ?_
        exact law_8 l hl0 hL9 C0 A hA hbA D cI cJ hK hE tt fl pn s1 d1 r1 s2 d2 r2 mm ac ar al aq ab ow C R lim np bs P sm sn qb qs wd c1 c2 th N gn g1 h1 g2 h2 gc gr gl gq gb lf hLI i hi0 hi1 cs ss (by omega) (by omega) H locs hP hD hS ls hl (kk hi1)
      · refine zv_tableIn (tgt := 551) hx hb dL_law_69 ⟨by decide, by decide⟩ (by decide) (by decide) rfl (by decide) ?_
        exact law_9 l hl0 hL9 C0 A hA hbA D cI cJ hK hE tt fl pn s1 d1 r1 s2 d2 r2 mm ac ar al aq ab ow C R lim np bs P sm sn qb qs wd c1 c2 th N gn g1 h1 g2 h2 gc gr gl gq gb lf hLI i hi0 hi1 cs ss (by omega) (by omega) H locs hP hD hS ls hl (kk hi1)
      · refine zv_tableIn (tgt := 564) hx hb dL_law_69 ⟨by decide, by decide⟩ (by decide) (by decide) rfl (by decide) ?_
        exact law_10 l hl0 hL9 C0 A hA hbA D cI cJ hK hE tt fl pn s1 d1 r1 s2 d2 r2 mm ac ar al aq ab ow C R lim np bs P sm sn qb qs wd c1 c2 th N gn g1 h1 g2 h2 gc gr gl gq gb lf hLI i hi0 hi1 cs ss (by omega) (by omega) H locs hP hD hS ls hl (kk hi1)
      · refine zv_tableIn (tgt := 577) hx hb dL_law_69 ⟨by decide, by decide⟩ (by decide) (by decide) rfl (by decide) ?_
        exact law_11 l hl0 hL9 C0 A hA hbA D cI cJ hK hE tt fl pn s1 d1 r1 s2 d2 r2 mm ac ar al aq ab ow C R lim np bs P sm sn qb qs wd c1 c2 th N gn g1 h1 g2 h2 gc gr gl gq gb lf hLI i hi0 hi1 cs ss (by omega) (by omega) H locs hP hD hS ls hl (kk hi1)
      · refine zv_tableIn (tgt := 590) hx hb dL_law_69 ⟨by decide, by decide⟩ (by decide) (by decide) rfl (by decide) ?_
        exact law_12 l hl0 hL9 C0 A hA hbA D cI cJ hK hE tt fl pn s1 d1 r1 s2 d2 r2 mm ac ar al aq ab ow C R lim np bs P sm sn qb qs wd c1 c2 th N gn g1 h1 g2 h2 gc gr gl gq gb lf hLI i hi0 hi1 cs ss (by omega) (by omega) H locs hP hD hS ls hl (kk hi1)
      · refine zv_tableIn (tgt := 646) hx hb dL_law_69 ⟨by decide, by decide⟩ (by decide) (by decide) rfl (by decide) ?_
        exact law_13 l hl0 hL9 C0 A hA hbA D cI cJ hK hE tt fl pn s1 d1 r1 s2 d2 r2 mm ac ar al aq ab ow C R lim np bs P sm sn qb qs wd c1 c2 th N gn g1 h1 g2 h2 gc gr gl gq gb lf hLI i hi0 hi1 cs ss (by omega) (by omega) H locs hP hD hS ls hl (kk hi1)
      · refine zv_tableIn (tgt := 702) hx hb dL_law_69 ⟨by decide, by decide⟩ (by decide) (by decide) rfl (by decide) ?_
        exact law_14 l hl0 hL9 C0 A hA hbA D cI cJ hK hE tt fl pn s1 d1 r1 s2 d2 r2 mm ac ar al aq ab ow C R lim np bs P sm sn qb qs wd c1 c2 th N gn g1 h1 g2 h2 gc gr gl gq gb lf hLI i hi0 hi1 cs ss (by omega) (by omega) H locs hP hD hS ls hl (kk hi1)
      · refine zv_tableIn (tgt := 715) hx hb dL_law_69 ⟨by decide, by decide⟩ (by decide) (by decide) rfl (by decide) ?_
        exact law_15 l hl0 hL9 C0 A hA hbA D cI cJ hK hE tt fl pn s1 d1 r1 s2 d2 r2 mm ac ar al aq ab ow C R lim np bs P sm sn qb qs wd c1 c2 th N gn g1 h1 g2 h2 gc gr gl gq gb lf hLI i hi0 hi1 cs ss (by omega) (by omega) H locs hP hD hS ls hl (kk hi1)
      · refine zv_tableIn (tgt := 783) hx hb dL_law_69 ⟨by decide, by decide⟩ (by decide) (by decide) rfl (by decide) ?_
        exact law_16 l hl0 hL9 C0 A hA hbA D cI cJ hK hE tt fl pn s1 d1 r1 s2 d2 r2 mm ac ar al aq ab ow C R lim np bs P sm sn qb qs wd c1 c2 th N gn g1 h1 g2 h2 gc gr gl gq gb lf hLI i hi0 hi1 cs ss (by omega) (by omega) H locs hP hD hS ls hl (kk hi1)
      · refine zv_tableIn (tgt := 851) hx hb dL_law_69 ⟨by decide, by decide⟩ (by decide) (by decide) rfl (by decide) ?_
        exact law_17 l hl0 hL9 C0 A hA hbA D cI cJ hK hE tt fl pn s1 d1 r1 s2 d2 r2 mm ac ar al aq ab ow C R lim np bs P sm sn qb qs wd c1 c2 th N gn g1 h1 g2 h2 gc gr gl gq gb lf hLI i hi0 hi1 cs ss (by omega) (by omega) H locs hP hD hS ls hl (kk hi1)
      · refine zv_tableIn (tgt := 919) hx hb dL_law_69 ⟨by decide, by decide⟩ (by decide) (by decide) rfl (by decide) ?_
        exact law_18 l hl0 hL9 C0 A hA hbA D cI cJ hK hE tt fl pn s1 d1 r1 s2 d2 r2 mm ac ar al aq ab ow C R lim np bs P sm sn qb qs wd c1 c2 th N gn g1 h1 g2 h2 gc gr gl gq gb lf hLI i hi0 hi1 cs ss (by omega) (by omega) H locs hP hD hS ls hl (kk hi1)
    · refine zv_tableOut (tgt := 932) hx hb dL_law_69 ⟨by omega, by omega⟩ (by omega) (by decide) ?_
      refine W.widen (k := cs + 2) (n := ss + 12) (by omega) (by omega) ?_
      exact kk hi1 _ H locs ls ⟨np, bs, P, sm, sn, qb, qs, wd, c1, c2, th, N, gn, g1, h1, g2, h2, gc, gr, gl, gq, gb, lf, hLI, rfl⟩ hP hD hS hl
