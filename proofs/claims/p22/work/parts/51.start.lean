/-! the law's start: what the tables and the Statement's premises give -/
theorem tw_at {s : State} {b : Addr} (hts : ∀ w ∈ lw_tbl, w.before #[Value.ref b] s = true) {w : Cond} (i : Nat) (h : lw_tbl[i]? = some w) : w.before #[Value.ref b] s = true := hts w (List.mem_of_getElem? h)
def nestP : List Nat := [37, 114, 117, 120, 123, 134, 143, 148, 161]
def xWsP : List Nat := [214, 216, 218, 332, 290, 212, 376]
def xStrP : List Nat := [351, 364, 252, 297, 383, 312, 444, 460, 452, 339]
theorem nest_in : nestT.map (fun t => some (Cond.methodLinkNest t.1 t.2.1 t.2.2 "Tetherline")) = nestP.map (fun i => lw_tbl[i]?) := by decide +kernel
theorem xWs_in : xWs.map some = xWsP.map (fun i => lw_tbl[i]?) := by decide +kernel
theorem xStr_in : xStr.map (fun t => some (Cond.stringRef RX2 t.1 t.2)) = xStrP.map (fun i => lw_tbl[i]?) := by decide +kernel
theorem mem_of_map {α : Type} {T : List α} {f : α → Option Cond} {P : List Nat} (h : T.map f = P.map (fun i : Nat => lw_tbl[i]?)) {t : α} (ht : t ∈ T) : ∃ i : Nat, lw_tbl[i]? = f t := by
  have h1 : f t ∈ T.map f := List.mem_map.mpr ⟨t, ht, rfl⟩
  rw [h] at h1
  obtain ⟨i, -, hi⟩ := List.mem_map.mp h1
  exact ⟨i, hi⟩
theorem nc_in : ∀ t ∈ xNc, Cond.not (.castable t.1 t.2) ∈ flatC (Jvm.Cond.and given_1 narrow_1) := by decide +kernel
theorem ex_in : ∀ t ∈ xStr, Cond.exactly (.string RX2 t.1) "java/lang/String" ∈ flatC (Jvm.Cond.and given_1 narrow_1) := by decide +kernel
theorem isr_in : Cond.isRef (.static Bundle.tN "UNASSIGNED_STACK" Bundle.steD) ∈ flatC (Jvm.Cond.and given_1 narrow_1) ∧ Cond.isRef (.static Bundle.tN "SUPPRESSED_SENTINEL" Bundle.listD) ∈ flatC (Jvm.Cond.and given_1 narrow_1) := by decide +kernel
theorem law_NN {s : State} {b : Addr} (hts : ∀ w ∈ lw_tbl, w.before #[Value.ref b] s = true) : NN s := fun t ht => by
  obtain ⟨i, hi⟩ := mem_of_map nest_in ht
  exact va_tabs rfl rfl (tw_at hts i hi)
theorem law_EX {s : State} {b : Addr} (hts : ∀ w ∈ lw_tbl, w.before #[Value.ref b] s = true) (hgv : (Jvm.Cond.and given_1 narrow_1).before #[Value.ref b] s = true) : EX (fun q : Nat => s.heap.size ≤ q) s s.heap := by
  have hfl := flat_of_before _ hgv
  have hA : ∀ a : Nat, a < s.heap.size → ¬ (fun q : Nat => s.heap.size ≤ q) a := fun a h => Nat.not_le.mpr h
  refine ⟨fun w hw => ?_, fun t ht => ?_, fun t ht => va_Nc.of (hfl _ (nc_in t ht)), ?_, ?_⟩
  · obtain ⟨i, hi⟩ := mem_of_map xWs_in hw
    exact va_tabs (xWs_ot w hw).1 rfl (tw_at hts i hi)
  · obtain ⟨i, hi⟩ := mem_of_map xStr_in ht
    obtain ⟨a, c, cell, k, h1, -⟩ := Cond.exactly_spec (hfl _ (ex_in t ht))
    exact ⟨a, vk_R.of (tw_at hts i hi) h1⟩
  · exact vx_Zqof (tw_at hts 237 (by decide +kernel)) (tw_at hts 20 (by decide +kernel)) (hfl _ isr_in.1) hA
  · exact vx_Zqof (tw_at hts 239 (by decide +kernel)) (tw_at hts 20 (by decide +kernel)) (hfl _ isr_in.2) hA
theorem arr_at {s : State} {args : Array Value} {ty : FieldType} (hty : ∀ cA : ClassId, s.vm.findClass ("[" ++ ty.toString) = some cA → va_RA s cA ty) (h : (Cond.arrayClass ty).before args s = true) : ∃ cA : ClassId, ArrOfT s cA ty ∧ va_RA s cA ty := by
  obtain ⟨c, k, comp, h1, h2, h3⟩ := Cond.arrayClass_spec h
  exact ⟨c, fun n z => ⟨fun k h => (by cases h), k, h2, comp, h3⟩, hty c h1⟩
theorem law_KK {s : State} {b : Addr} (hts : ∀ w ∈ lw_tbl, w.before #[Value.ref b] s = true) : ∃ (D : va_G) (cI cJ : ClassId), KK D cI cJ s := by
  have hgw := gw_lw hts
  obtain ⟨c0, i0, k0⟩ := u_known (C := RX0) (T := TX0) (N := 4) (n := 4) hgw uX0 (tw_at hts 53 (by decide +kernel))
  obtain ⟨c1, i1, k1⟩ := u_known (C := RX1) (T := TX1) (N := 3) (n := 3) hgw uX1 (tw_at hts 36 (by decide +kernel))
  obtain ⟨c2, i2, k2⟩ := u_known (C := RX2) (T := TX2) (N := 7) (n := 7) hgw uX2 (tw_at hts 28 (by decide +kernel))
  obtain ⟨cI, hI⟩ := arr_at (ty := .int) (fun cA h => h) (tw_at hts 51 (by decide +kernel))
  refine ⟨(fun k => if k = 0 then c0 else if k = 1 then c1 else c2, fun k => if k = 0 then i0 else if k = 1 then i1 else i2), cI, cI, ⟨fun k q hq => ?_, fun k q hq => ?_⟩, law_NN hts⟩
  · match k, hq with
    | 0, hq => cases hq; exact k0
    | 1, hq => cases hq; exact k1
    | 2, hq => cases hq; exact k2
    | k + 3, hq => simp [vwCl] at hq
  · match k, hq with
    | 0, hq => cases hq; exact hI
    | k + 1, hq => simp [aT] at hq
theorem law_hl {l : Launch} (h : l.flags = flags0) : l.stackTraces = false := by
  unfold Launch.stackTraces
  rw [h]
  decide +kernel
