/-! THE CLAIM OUT OF ONE WALK OF THE LAW'S BODY. Your part is whole_start (and what it stands on); all else here is the same for every law, but numbers. -/
def R_law : String := "TetherlineLaw"
def lw_P (b : Addr) (xs : List Int32) (args : Array Value) (s : State) : Prop := args = #[.ref b] ∧ s.IntsAt b xs ∧ xs.length ≤ 260 ∧ (Jvm.Cond.and given_1 narrow_1).before args s = true
def lw_Q (_ : Array Value) (s : State) (o : Outcome) (t : State) : Prop := o = .returned (some (.int 1)) ∧ Framed s o t [] 600170 7300652
def lw_Z (below : List Frame) (a : Array Value) (s : State) : State → Prop := fun t => ∃ o, t.status = .running ∧ Ended t below o ∧ lw_Q a s o t
/-- the law's own end, with 1 on the stack, nothing written that was there before, its room as the claim has it -/
theorem lw_ret {p : Program} {l : Launch} {e : Env} {s : State} {m : MethodId} {below : List Frame} {meth : Method} {c : Code} {b : Nat} (hx : p.tables.exec = Jvm.exec) (hb : c.code = code) (hr : meth.sig.returnType = ret) (hlocks : meth.locks = false) {pc : Nat} {H : Heap} {ls : Array Slot} (hdg : decode code pc = .ok (.ireturn, 1)) : W p l e room_1 s m #[Value.ref b] below meth c H [] 600170 7300652 (lw_Z below #[Value.ref b] s) (F0 m pc ls [.int 1]) := by
  intro T hT X
  obtain ⟨fs, hret, hrun, hended, hW, hframe⟩ := X.leave (v := some (.int 1)) (hlocks := hlocks) (fun h => by rw [hr] at h; cases h)
  have hmeth' : T.vm.method? m = some meth := X.method'
  refine ⟨T.setFrames fs, ?_, .returned (some (.int 1)), hrun, hended, rfl, ⟨_, rfl⟩, hW, hframe⟩
  jvm_step X.here [X.here.top, hx, hb, hdg, hmeth', hr, ret, narrow_b1]
  (try refine ⟨rfl, ?_⟩); (try refine ⟨rfl, ?_⟩)
  first | (intro acts; rw [hret _ acts rfl rfl rfl]) | rw [hret _ _ rfl rfl rfl]
  exact Steps.refl _
/-- what holds at the law's entry: the machine, the code, the tables' words (any of lw_tbl by 'hts w (by decide +kernel)'), the script of L ints xs at the cell b, what the Statement gives of the start (any of its parts by flat_of_before) -/
def lw_At (p : Program) (s : State) (m : MethodId) (meth : Method) (c : Code) (b L : Nat) (xs : Nat → Int32) : Prop :=
  p.tables.exec = Jvm.exec ∧ c.code = code ∧ meth.sig.returnType = ret ∧ c.maxLocals = 9 ∧ s.vm.findClass R_law = some m.cls ∧ (∀ w ∈ lw_tbl, w.before #[Value.ref b] s = true) ∧ va_X b L xs s s.heap ∧ b < s.heap.size ∧ meth.locks = false ∧ (Jvm.Cond.and given_1 narrow_1).before #[Value.ref b] s = true

/-- the two objects between two calls -/
def JInv (cI : ClassId) (tt fl pn s1 d1 r1 s2 d2 r2 tu fm pm t1 e1 q1 t2 e2 q2 : Nat) (C R lim B : Int) (ws : va_W) : Prop :=
  ∃ (np bs P sm c1 c2 c5 c6 : Int) (N : Int → Int) (gn g1 h1 g2 h2 gm g5 h5 g6 h6 : Nat → Int), (FlOK C R np N gn ∧ SpOK (BF (aftZ C R N) (bs * 343)) g1 h1 c1 ∧ FlOK C R np N gm ∧ SpOK (BF (aftZ C R N) (bs * 343)) g5 h5 c5 ∧ JI C R lim np bs P sm N B) ∧ ws = [(tt, .inr (2, [.ref fl, .int (iI lim), .ref s1, .ref s2, .int (iI bs), .int (iI P), .int (iI sm)])), (fl, .inr (0, [.int (iI C), .int (iI R), .ref pn, .int (iI np)])), (pn, .inl (cI, 49, .inl (aI gn))), (s1, .inr (1, [.ref d1, .ref r1, .int (iI c1)])), (d1, .inl (cI, 16807, .inl (aI g1))), (r1, .inl (cI, 9163, .inl (aI h1))), (s2, .inr (1, [.ref d2, .ref r2, .int (iI c2)])), (d2, .inl (cI, 16807, .inl (aI g2))), (r2, .inl (cI, 9163, .inl (aI h2))), (tu, .inr (2, [.ref fm, .int (iI lim), .ref t1, .ref t2, .int (iI bs), .int (iI P), .int (iI sm)])), (fm, .inr (0, [.int (iI C), .int (iI R), .ref pm, .int (iI np)])), (pm, .inl (cI, 49, .inl (aI gm))), (t1, .inr (1, [.ref e1, .ref q1, .int (iI c5)])), (e1, .inl (cI, 16807, .inl (aI g5))), (q1, .inl (cI, 9163, .inl (aI h5))), (t2, .inr (1, [.ref e2, .ref q2, .int (iI c6)])), (e2, .inl (cI, 16807, .inl (aI g6))), (q2, .inl (cI, 9163, .inl (aI h6)))]
theorem JI_0 {C R lim : Int} {gn : Nat → Int} (hC : 3 ≤ C ∧ C ≤ 7) (hR : 3 ≤ R ∧ R ≤ 7) (hlm : 2 ≤ lim ∧ lim ≤ 59) (hgn : ∀ k : Nat, k < 49 → gn k = -1) : JI C R lim 0 0 0 0 (fun _ => -1) 0 := by
  have hF := FlOK_0 hC hR hgn
  have hb : GdZ C R (fun _ => -1) (0 * 343) := GdZ_mk (a := 0) (b := 0) hC.2 hR.2 (by decide) (by omega) (by decide) (by omega) rfl
  have h0 : LZ C R (fun _ => -1) 0 0 = 0 := LZ_0 hF hb
  exact ⟨hb, by rw [h0]; omega, hlm, by rw [h0]; exact Int.le_refl _, by rw [h0]; rfl, Int.le_refl _⟩
def SPre (b L : Nat) (xs : Nat → Int32) : State → Prop := fun U => va_X b L xs U U.heap ∧ b < U.heap.size
theorem SPre_blind {As : List Value} {b L : Nat} {xs : Nat → Int32} : FrameBlind (va_Pc As (SPre b L xs)) := fun a U g mk q => ⟨q.1, va_X.moved (u := U) (U := U.calling g mk a) (Vm.Alike.refl U.vm) q.2.1, q.2.2⟩
theorem c_L_cell (l : Launch) (b L : Nat) (xs : Nat → Int32) (hL : L < 2147483648) (i : Int) (hi0 : 0 ≤ i) (hi9 : i < 50) : Met l yL_cell (.code yL_cell cL_cell 2 (some .int) :: GW) (lvl 0) (va_Pc [.ref b, .int (iI i)] (SPre b L xs)) (PQ (fun r => InR r)) 0 0 (fun _ => False) := by
  refine Met.ofW (cc := cL_cell) (maxL := 2) (ret := some .int) (by decide) rfl ?_
  intro p e s m args below meth c s₁ B hml hv
  obtain ⟨rfl, hX, hbl⟩ := hv
  have hl := lv_entry [.ref b, .int (iI i)] (n := 2) (Nat.le_of_ble_eq_true rfl)
  rw [lg_entry_eq]
  have hx := B.exec
  have hb := B.bytes
  have hS : va_S (fun _ => False) s.heap s.heap [] := va_S.rf
  generalize (lg_sl ([.ref b, .int (iI i)]) ++ List.replicate (2 - (lg_sl ([.ref b, .int (iI i)])).length) Slot.unset).toArray = ls at hl ⊢
  have hl : lv_has ls 2 [(0, .ref b), (1, .int (iI i))] := hl
  refine lv_iload_n hx hb dL_cell_0 rfl (lv_at hl 1 rfl) ?_
  refine lv_aload_n hx hb dL_cell_1 rfl (lv_at hl 0 rfl) ?_
  refine zv_slen hx hb hX hbl (fun h => h) hS dL_cell_2 ?_
  refine zv_icmp_ge hx hb dL_cell_3 (tgt := 12) (by decide) ⟨by omega, by omega⟩ ⟨by omega, by omega⟩ (fun c_1 => ?_) (fun c_1 => ?_)
  · refine zv_sipush hx hb dL_cell_12 (by decide) ?_
    refine lv_iload_n hx hb dL_cell_15 rfl (lv_at hl 1 rfl) ?_
    refine zv_sipush hx hb dL_cell_16 (by decide) ?_
    refine zv_iadd hx hb dL_cell_19 ?_
    refine zv_imul hx hb dL_cell_20 ?_
    refine lv_iload_n hx hb dL_cell_21 rfl (lv_at hl 1 rfl) ?_
    refine zv_sipush hx hb dL_cell_22 (by decide) ?_
    refine zv_iadd hx hb dL_cell_25 ?_
    refine zv_imul hx hb dL_cell_26 ?_
    refine zv_wrap (fun y hyr _ _ => ?_)
    exact PM_iret hx hb B.returns B.notSynchronized dL_cell_27 hyr
  · refine lv_aload_n hx hb dL_cell_6 rfl (lv_at hl 0 rfl) ?_
    refine lv_iload_n hx hb dL_cell_7 rfl (lv_at hl 1 rfl) ?_
    refine zv_sld hx hb hX hbl (fun h => h) hS (by omega) (by omega) hL dL_cell_8 ?_
    refine lv_goto (tgt := 27) hx hb dL_cell_9 (by decide) ?_
    exact PM_iret hx hb B.returns B.notSynchronized dL_cell_27 (sX_r xs i.toNat)
section ZC
variable {p : Program} {l : Launch} {e : Env} {R : Room} {s : State} {m : MethodId} {args : Array Value} {below : List Frame} {meth : Method} {c : Code} {H : Heap} {locs : List Loc} {cells slots : Nat} {Q : State → Prop}
variable {cc : ByteArray} {pc : Nat} {ls : Array Slot} {rest : List Value} {D : va_G} {cI cJ : ClassId} {A : Nat → Prop}
theorem zx_cell {b L : Nat} {i : Int} {xs : Nat → Int32} (hexec : p.tables.exec = Jvm.exec) (hb : c.code = cc) (hml : c.maxLocals = ls.size) (hts : ∀ w ∈ GW, w.before args s = true) (hown : s.vm.findClass RL = some m.cls) (hX : va_X b L xs s s.heap) (hbl : b < s.heap.size) (hbA : ¬ A b) (hS : va_S A s.heap H locs) (hL : L < 2147483648) (hi0 : 0 ≤ i) (hi9 : i < 50) (hR : 1 ≤ R.frames ∧ 21 ≤ R.locals) (hf : cells ≤ R.cells ∧ slots ≤ R.slots) (hW : (rest.map fun v => v.category).sum ≤ 8) (hdg : decode cc pc = .ok (.invokestatic 97, 3))
    (kk : ∀ z : Int, -2147483648 ≤ z → z < 2147483648 → W p l e R s m args below meth c H locs cells slots Q (F0 m (pc + 3) ls (.int (iI z) :: rest))) : W p l e R s m args below meth c H locs cells slots Q (F0 m pc ls (.int (iI i) :: .ref b :: rest)) := by
  refine PM_goes (y := yL_cell) (cd := .code yL_cell cL_cell 2 (some .int)) (k := 0) (As := [.ref b, .int (iI i)]) (ws := []) (va_runS (As := [.ref b, .int (iI i)]) (rest := rest) (nL := ls.size) ⟨hexec, hb, hml, hown, hts⟩ (c_L_cell l b L xs hL i hi0 hi9) (cwS 2 hts (gd_S q_5178 q_5179 q_0 q_5180) rfl rfl rfl (by decide +kernel) (by show 0 + 1 ≤ R.frames ∧ 8 + (2 + 11) + 0 ≤ R.locals; omega)) ⟨SPre_blind, fun U hU hW => ⟨rfl, ?_⟩⟩ rfl rfl rfl rfl (lv_room hW) hdg hf) (fun r hr => kk r hr.1 hr.2)
  show va_X b L xs U U.heap ∧ b < U.heap.size
  rw [hU]
  exact ⟨va_X.moved hW.alike (hX.kept (hS.2.1 b hbl hbA)), Nat.lt_of_lt_of_le hbl hS.1⟩
end ZC
