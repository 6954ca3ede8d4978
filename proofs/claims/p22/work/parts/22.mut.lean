/-! methods that change cells: a world ws at the start, W u at the end; nothing else changed -/
def rmM (k mc ms : Nat) : Room := { frames := k, cells := mc, slots := ms, locals := 64 * k }
def MPre (D : va_G) (cI cJ : ClassId) (ws : va_W) (sz : Nat) : State → Prop := fun U => U.heap.size = sz ∧ va_P D vwCl ws U.heap ∧ KK D cI cJ U ∧ va_D (fun _ => True) ws
def QMi (D : va_G) (A : Nat → Prop) {S : Type} (post : Int → S → Prop) (Wf : S → va_W) : Array Value → State → Outcome → State → Prop := va_Qi (fun r u => ∃ z : Int, r = iI z ∧ post z u) (fun u t => va_P D vwCl (Wf u) t.heap ∧ va_D A (Wf u)) A
def QMv (D : va_G) (A : Nat → Prop) {S : Type} (post : S → Prop) (Wf : S → va_W) : Array Value → State → Outcome → State → Prop := va_Qv post (fun u t => va_P D vwCl (Wf u) t.heap ∧ va_D A (Wf u)) A
def MMi (l : Launch) (y : MethodName) (cd : Cond) (k mc ms : Nat) (As : List Value) (D : va_G) (cI cJ : ClassId) (ws : va_W) (sz : Nat) {S : Type} (post : Int → S → Prop) (Wf : S → va_W) : Prop :=
  Met l y (cd :: GW) (rmM k mc ms) (va_Pc As (MPre D cI cJ ws sz)) (QMi D (va_A ws sz) post Wf) mc ms (va_A ws sz)
def MMv (l : Launch) (y : MethodName) (cd : Cond) (k mc ms : Nat) (As : List Value) (D : va_G) (cI cJ : ClassId) (ws : va_W) (sz : Nat) {S : Type} (post : S → Prop) (Wf : S → va_W) : Prop :=
  Met l y (cd :: GW) (rmM k mc ms) (va_Pc As (MPre D cI cJ ws sz)) (QMv D (va_A ws sz) post Wf) mc ms (va_A ws sz)
theorem MPre_blind {As : List Value} {D : va_G} {cI cJ : ClassId} {ws : va_W} {sz : Nat} : FrameBlind (va_Pc As (MPre D cI cJ ws sz)) := fun a U g mk q => ⟨q.1, q.2.1, q.2.2.1, q.2.2.2.1.calling, q.2.2.2.2⟩
theorem MM_of {l : Launch} {y : MethodName} {k mc ms : Nat} {As : List Value} {D : va_G} {cI cJ : ClassId} {ws : va_W} {sz : Nat} {Qc : (Nat → Prop) → Array Value → State → Outcome → State → Prop} {cc : ByteArray} {maxL : Nat} {ret : Option FieldType} {own : String}
    (hy : plainName y.cls = true) (ho : y.cls = own) (hn : (lg_sl As).length ≤ maxL)
    (body : ∀ (p : Program) (e : Env) (s : State) (m : MethodId) (below : List Frame) (meth : Method) (c : Code) (ls : Array Slot) (A : Nat → Prop), p.tables.exec = Jvm.exec → c.code = cc → meth.sig.returnType = ret → (∀ w ∈ GW, w.before As.toArray s = true) → s.vm.findClass own = some m.cls → meth.locks = false → c.maxLocals = maxL → meth.name = y.name → KK D cI cJ s → va_P D vwCl ws s.heap → va_D A ws → (∀ q : Nat, s.heap.size ≤ q → A q) → va_S A s.heap s.heap [] → lv_has ls maxL (lv_args 0 As) →
      W p l e (rmM k mc ms) s m As.toArray below meth c s.heap [] 0 0 (MQ below (Qc A) As.toArray s mc ms A) (F0 m 0 ls [])) : Met l y (.code y cc maxL ret :: GW) (rmM k mc ms) (va_Pc As (MPre D cI cJ ws sz)) (Qc (va_A ws sz)) mc ms (va_A ws sz) := by
  refine Met.ofW (cc := cc) (maxL := maxL) (ret := ret) hy rfl ?_
  intro p e s m args below meth c s₁ B hml hv
  obtain ⟨rfl, hsz, hP, hK, hD0⟩ := hv
  subst hsz
  have hts := atoms_spec (ws := Cond.code y cc maxL ret :: GW) B.pre
  have hl := lv_entry As (n := maxL) hn
  rw [lg_entry_eq]
  exact body p e s m below meth c _ (va_A ws s.heap.size) B.exec B.bytes B.returns (fun w h => hts w (List.mem_cons_of_mem _ h)) (by rw [← ho]; exact findClass_of_methodNamed B.named) B.notSynchronized hml (name_of_methodNamed B.named B.method).1 hK hP hD0.self (fun q h => Or.inr h) va_S.rf hl
section MC
variable {p : Program} {l : Launch} {e : Env} {R : Room} {s : State} {m : MethodId} {args : Array Value} {below : List Frame} {meth : Method} {c : Code} {H : Heap} {locs : List Loc} {cells slots : Nat} {Q : State → Prop}
variable {cc : ByteArray} {pc : Nat} {ls : Array Slot} {rest st : List Value} {D : va_G} {cI cJ : ClassId} {A : Nat → Prop}
theorem MM_iret {S : Type} {post : Int → S → Prop} {Wf : S → va_W} {mc ms : Nat} {x : Int} (u : S) (hexec : p.tables.exec = Jvm.exec) (hb : c.code = cc) (hr : meth.sig.returnType = some .int) (hlocks : meth.locks = false) (hP : va_P D vwCl (Wf u) H) (hD : va_D A (Wf u)) (hS : va_S A s.heap H locs) (hc : cells ≤ mc) (hs : slots ≤ ms) (hdg : decode cc pc = .ok (.ireturn, 1)) (hq : post x u) :
    W p l e R s m args below meth c H locs cells slots (MQ below (QMi D A post Wf) args s mc ms A) (F0 m pc ls [.int (iI x)]) :=
  W.widen hc hs (W.iret hexec hb hr (fun t ht hW => ⟨⟨iI x, u, rfl, ⟨x, rfl, hq⟩, by rw [ht]; exact hP, hD⟩, hS.F ht⟩) hS.2.2 hdg hlocks)
theorem MM_zret {S : Type} {post : Int → S → Prop} {Wf : S → va_W} {mc ms : Nat} {x : Int} (u : S) (hexec : p.tables.exec = Jvm.exec) (hb : c.code = cc) (hr : meth.sig.returnType = some .boolean) (hlocks : meth.locks = false) (hP : va_P D vwCl (Wf u) H) (hD : va_D A (Wf u)) (hS : va_S A s.heap H locs) (hc : cells ≤ mc) (hs : slots ≤ ms) (hdg : decode cc pc = .ok (.ireturn, 1)) (hn : narrow .boolean (.int (iI x)) = .int (iI x)) (hq : post x u) :
    W p l e R s m args below meth c H locs cells slots (MQ below (QMi D A post Wf) args s mc ms A) (F0 m pc ls [.int (iI x)]) :=
  W.widen hc hs (W.zret hexec hb hr hn (fun t ht hW => ⟨⟨iI x, u, rfl, ⟨x, rfl, hq⟩, by rw [ht]; exact hP, hD⟩, hS.F ht⟩) hS.2.2 hdg hlocks)
theorem MM_vret {S : Type} {post : S → Prop} {Wf : S → va_W} {mc ms : Nat} (u : S) (hexec : p.tables.exec = Jvm.exec) (hb : c.code = cc) (hr : meth.sig.returnType = none) (hlocks : meth.locks = false) (hP : va_P D vwCl (Wf u) H) (hD : va_D A (Wf u)) (hS : va_S A s.heap H locs) (hc : cells ≤ mc) (hs : slots ≤ ms) (hdg : decode cc pc = .ok (.return_, 1)) (hq : post u) :
    W p l e R s m args below meth c H locs cells slots (MQ below (QMv D A post Wf) args s mc ms A) (F0 m pc ls []) :=
  W.widen hc hs (W.vret hexec hb hr (fun t ht hW => ⟨⟨u, rfl, hq, by rw [ht]; exact hP, hD⟩, hS.F ht⟩) hS.2.2 hdg hlocks)
/-- behind a call that gives an int -/
theorem MM_goi {S : Type} {post : Int → S → Prop} {Wf : S → va_W} {ws wc wr : va_W} {mc ms : Nat} {a : Array Value} (hP : va_P D vwCl ws H) (hD : va_D A ws) (hS : va_S A s.heap H locs) (hA : ∀ q : Nat, s.heap.size ≤ q → A q) (pl rl : List Nat) (hC : pl.map (fun i => ws[i]?) = wc.map some) (hR : rl.map (fun i => ws[i]?) = wr.map some) (hn : va_nd rl = true) (hdis : ∀ i ∈ rl, i ∉ pl)
    (hr : va_Run p l e R s m args below meth c H locs cells slots mc ms (F0 m pc ls st) rest (QMi D (va_A wc H.size) post Wf a) (va_A wc H.size))
    (kk : ∀ (r : Int) (u : S) (H1 : Heap) (locs1 : List Loc), post r u → va_P D vwCl (wr ++ Wf u) H1 → va_D A (wr ++ Wf u) → va_S A s.heap H1 locs1 → W p l e R s m args below meth c H1 locs1 (cells + mc) (slots + ms) Q (F0 m (pc + 3) ls (.int (iI r) :: rest))) : W p l e R s m args below meth c H locs cells slots Q (F0 m pc ls st) := by
  have hF := va_free (wc := wc) hD hS hA pl hC
  refine va_calli hr hS (fun q _ h => hF q h) hF (fun r u t H1 locs1 ht hvm hw hB hz hk hS1 => ?_)
  obtain ⟨z, rfl, hq⟩ := hw
  obtain ⟨hP1, hD1⟩ := hB
  rw [ht] at hP1
  obtain ⟨hP2, hD2⟩ := va_join hP hD pl rl hC hR hn hdis hk hF hP1 hD1
  exact kk z u H1 locs1 hq hP2 hD2 hS1
theorem MM_gov {S : Type} {post : S → Prop} {Wf : S → va_W} {ws wc wr : va_W} {mc ms : Nat} {a : Array Value} (hP : va_P D vwCl ws H) (hD : va_D A ws) (hS : va_S A s.heap H locs) (hA : ∀ q : Nat, s.heap.size ≤ q → A q) (pl rl : List Nat) (hC : pl.map (fun i => ws[i]?) = wc.map some) (hR : rl.map (fun i => ws[i]?) = wr.map some) (hn : va_nd rl = true) (hdis : ∀ i ∈ rl, i ∉ pl)
    (hr : va_Run p l e R s m args below meth c H locs cells slots mc ms (F0 m pc ls st) rest (QMv D (va_A wc H.size) post Wf a) (va_A wc H.size))
    (kk : ∀ (u : S) (H1 : Heap) (locs1 : List Loc), post u → va_P D vwCl (wr ++ Wf u) H1 → va_D A (wr ++ Wf u) → va_S A s.heap H1 locs1 → W p l e R s m args below meth c H1 locs1 (cells + mc) (slots + ms) Q (F0 m (pc + 3) ls rest)) : W p l e R s m args below meth c H locs cells slots Q (F0 m pc ls st) := by
  have hF := va_free (wc := wc) hD hS hA pl hC
  refine va_callv hr hS (fun q _ h => hF q h) hF (fun u t H1 locs1 ht hvm hw hB hz hk hS1 => ?_)
  obtain ⟨hP1, hD1⟩ := hB
  rw [ht] at hP1
  obtain ⟨hP2, hD2⟩ := va_join hP hD pl rl hC hR hn hdis hk hF hP1 hD1
  exact kk u H1 locs1 hw hP2 hD2 hS1
theorem MM_pre {As : List Value} {ws wc : va_W} (hK : KK D cI cJ s) (hP : va_P D vwCl ws H) (hD : va_D A ws) (pl : List Nat) (hC : pl.map (fun i => ws[i]?) = wc.map some) (hn : va_nd pl = true) (hs : pl.filterMap (fun i => ws[i]?) = wc) : ∀ U : State, U.heap = H → s.WarmedH U.vm → va_Pc As (MPre D cI cJ wc H.size) As.toArray U :=
  fun U hU hW => ⟨rfl, by rw [hU], by rw [hU]; exact hP.sub pl hs, hK.warm hW, (hD.sub pl hn hC).weaken (fun _ _ _ _ => trivial)⟩
theorem fm_of {ws wc : va_W} {pl : List Nat} (hC : pl.map (fun i => ws[i]?) = wc.map some) : pl.filterMap (fun i => ws[i]?) = wc := by
  have h : pl.filterMap (fun i => ws[i]?) = (pl.map (fun i => ws[i]?)).filterMap id := by rw [List.filterMap_map]; rfl
  rw [h, hC]
  induction wc with
  | nil => rfl
  | cons a t ih => simp
/-- calls of methods that change cells: on an object of the world .. -/
theorem zm_Vi {y : MethodName} {bytes : ByteArray} {maxL index k n mc ms : Nat} {ret : Option FieldType} {own C : String} {b : Addr} {As : List Value} {ws wc wr : va_W} {S : Type} {post : Int → S → Prop} {Wf : S → va_W} (hexec : p.tables.exec = Jvm.exec) (hb : c.code = cc) (hml : c.maxLocals = ls.size) (hts : ∀ w ∈ GW, w.before args s = true) (hown : s.vm.findClass own = some m.cls) (hK : KK D cI cJ s) (hP : va_P D vwCl ws H) (hD : va_D A ws) (hS : va_S A s.heap H locs) (hA : ∀ q : Nat, s.heap.size ≤ q → A q)
    (hM : MMi l y (.code y bytes maxL ret) k mc ms (.ref b :: As) D cI cJ wc H.size post Wf) (hG : GoodIn GW (wsV own index C y (.code y bytes maxL ret :: GW))) (hd : y.cls = C ∧ y.cls ≠ "java/lang/invoke/MethodHandle" ∧ y.cls ≠ "java/lang/invoke/VarHandle" ∧ (parseMethodDescriptor y.desc).map (fun d => d.parameters.length) = some n) (hn : As.length = n)
    (hR : k + 1 ≤ R.frames ∧ 8 + (maxL + 11) + 64 * k ≤ R.locals) (hf : cells + mc ≤ R.cells ∧ slots + ms ≤ R.slots) (pl rl : List Nat) (hC : pl.map (fun i => ws[i]?) = wc.map some) (hRl : rl.map (fun i => ws[i]?) = wr.map some) (hn1 : va_nd pl = true) (hn2 : va_nd rl = true) (hdis : ∀ i ∈ rl, i ∉ pl) (q0 : Nat) {ci : Nat} {fs : List Value} {q : vw_C} (hc : vwCl[ci]? = some q) (hq : q.1 = C) (he : ws[q0]? = some (b, .inr (ci, fs))) (hst : st = As.reverse ++ .ref b :: rest) (hW : (rest.map fun v => v.category).sum ≤ 8) (hdg : decode cc pc = .ok (.invokevirtual index, 3))
    (kk : ∀ (r : Int) (u : S) (H1 : Heap) (locs1 : List Loc), post r u → va_P D vwCl (wr ++ Wf u) H1 → va_D A (wr ++ Wf u) → va_S A s.heap H1 locs1 → W p l e R s m args below meth c H1 locs1 (cells + mc) (slots + ms) Q (F0 m (pc + 3) ls (.int (iI r) :: rest))) : W p l e R s m args below meth c H locs cells slots Q (F0 m pc ls st) := by
  have hr := va_recv hK.1 hP hc he
  rw [hq] at hr
  exact MM_goi hP hD hS hA pl rl hC hRl hn2 hdis (va_runV (C := C) (As := As) (rest := rest) (nL := ls.size) ⟨hexec, hb, hml, hown, hts⟩ hM (cwV n hts hG rfl rfl rfl hd hR) ⟨MPre_blind, hr, MM_pre hK hP hD pl hC hn1 (fm_of hC)⟩ rfl hn rfl hst (lv_room hW) hdg hf) kk
theorem zm_Vv {y : MethodName} {bytes : ByteArray} {maxL index k n mc ms : Nat} {own C : String} {b : Addr} {As : List Value} {ws wc wr : va_W} {S : Type} {post : S → Prop} {Wf : S → va_W} (hexec : p.tables.exec = Jvm.exec) (hb : c.code = cc) (hml : c.maxLocals = ls.size) (hts : ∀ w ∈ GW, w.before args s = true) (hown : s.vm.findClass own = some m.cls) (hK : KK D cI cJ s) (hP : va_P D vwCl ws H) (hD : va_D A ws) (hS : va_S A s.heap H locs) (hA : ∀ q : Nat, s.heap.size ≤ q → A q)
    (hM : MMv l y (.code y bytes maxL none) k mc ms (.ref b :: As) D cI cJ wc H.size post Wf) (hG : GoodIn GW (wsV own index C y (.code y bytes maxL none :: GW))) (hd : y.cls = C ∧ y.cls ≠ "java/lang/invoke/MethodHandle" ∧ y.cls ≠ "java/lang/invoke/VarHandle" ∧ (parseMethodDescriptor y.desc).map (fun d => d.parameters.length) = some n) (hn : As.length = n)
    (hR : k + 1 ≤ R.frames ∧ 8 + (maxL + 11) + 64 * k ≤ R.locals) (hf : cells + mc ≤ R.cells ∧ slots + ms ≤ R.slots) (pl rl : List Nat) (hC : pl.map (fun i => ws[i]?) = wc.map some) (hRl : rl.map (fun i => ws[i]?) = wr.map some) (hn1 : va_nd pl = true) (hn2 : va_nd rl = true) (hdis : ∀ i ∈ rl, i ∉ pl) (q0 : Nat) {ci : Nat} {fs : List Value} {q : vw_C} (hc : vwCl[ci]? = some q) (hq : q.1 = C) (he : ws[q0]? = some (b, .inr (ci, fs))) (hst : st = As.reverse ++ .ref b :: rest) (hW : (rest.map fun v => v.category).sum ≤ 8) (hdg : decode cc pc = .ok (.invokevirtual index, 3))
    (kk : ∀ (u : S) (H1 : Heap) (locs1 : List Loc), post u → va_P D vwCl (wr ++ Wf u) H1 → va_D A (wr ++ Wf u) → va_S A s.heap H1 locs1 → W p l e R s m args below meth c H1 locs1 (cells + mc) (slots + ms) Q (F0 m (pc + 3) ls rest)) : W p l e R s m args below meth c H locs cells slots Q (F0 m pc ls st) := by
  have hr := va_recv hK.1 hP hc he
  rw [hq] at hr
  exact MM_gov hP hD hS hA pl rl hC hRl hn2 hdis (va_runV (C := C) (As := As) (rest := rest) (nL := ls.size) ⟨hexec, hb, hml, hown, hts⟩ hM (cwV n hts hG rfl rfl rfl hd hR) ⟨MPre_blind, hr, MM_pre hK hP hD pl hC hn1 (fm_of hC)⟩ rfl hn rfl hst (lv_room hW) hdg hf) kk
/-- .. a static one of another class .. -/
theorem zm_Sv {y : MethodName} {bytes : ByteArray} {maxL index k n mc ms : Nat} {own : String} {As : List Value} {ws wc wr : va_W} {S : Type} {post : S → Prop} {Wf : S → va_W} (hexec : p.tables.exec = Jvm.exec) (hb : c.code = cc) (hml : c.maxLocals = ls.size) (hts : ∀ w ∈ GW, w.before args s = true) (hown : s.vm.findClass own = some m.cls) (hK : KK D cI cJ s) (hP : va_P D vwCl ws H) (hD : va_D A ws) (hS : va_S A s.heap H locs) (hA : ∀ q : Nat, s.heap.size ≤ q → A q)
    (hM : MMv l y (.code y bytes maxL none) k mc ms As D cI cJ wc H.size post Wf) (hG : GoodIn GW (va_wsS own index y (.code y bytes maxL none :: GW))) (hd : y.cls ≠ "java/lang/invoke/MethodHandle" ∧ y.cls ≠ "java/lang/invoke/VarHandle" ∧ (parseMethodDescriptor y.desc).map (fun d => d.parameters.length) = some n) (hn : As.length = n)
    (hR : k + 1 ≤ R.frames ∧ 8 + (maxL + 11) + 64 * k ≤ R.locals) (hf : cells + mc ≤ R.cells ∧ slots + ms ≤ R.slots) (pl rl : List Nat) (hC : pl.map (fun i => ws[i]?) = wc.map some) (hRl : rl.map (fun i => ws[i]?) = wr.map some) (hn1 : va_nd pl = true) (hn2 : va_nd rl = true) (hdis : ∀ i ∈ rl, i ∉ pl) (hst : st = As.reverse ++ rest) (hW : (rest.map fun v => v.category).sum ≤ 8) (hdg : decode cc pc = .ok (.invokestatic index, 3))
    (kk : ∀ (u : S) (H1 : Heap) (locs1 : List Loc), post u → va_P D vwCl (wr ++ Wf u) H1 → va_D A (wr ++ Wf u) → va_S A s.heap H1 locs1 → W p l e R s m args below meth c H1 locs1 (cells + mc) (slots + ms) Q (F0 m (pc + 3) ls rest)) : W p l e R s m args below meth c H locs cells slots Q (F0 m pc ls st) :=
  MM_gov hP hD hS hA pl rl hC hRl hn2 hdis (va_runS (As := As) (rest := rest) (nL := ls.size) ⟨hexec, hb, hml, hown, hts⟩ hM (va_cwS n hts hG rfl rfl rfl hd hR) ⟨MPre_blind, MM_pre hK hP hD pl hC hn1 (fm_of hC)⟩ rfl hn rfl hst (lv_room hW) hdg hf) kk
/-- .. a constructor .. -/
theorem zm_I {y : MethodName} {bytes : ByteArray} {maxL index k n mc ms : Nat} {own : String} {b : Addr} {As : List Value} {ws wc wr : va_W} {S : Type} {post : S → Prop} {Wf : S → va_W} (hexec : p.tables.exec = Jvm.exec) (hb : c.code = cc) (hml : c.maxLocals = ls.size) (hts : ∀ w ∈ GW, w.before args s = true) (hown : s.vm.findClass own = some m.cls) (hK : KK D cI cJ s) (hP : va_P D vwCl ws H) (hD : va_D A ws) (hS : va_S A s.heap H locs) (hA : ∀ q : Nat, s.heap.size ≤ q → A q)
    (hM : MMv l y (.code y bytes maxL none) k mc ms (.ref b :: As) D cI cJ wc H.size post Wf) (hcd : Cond.code y bytes maxL none ∈ GW) (hini : Cond.initialized y.cls ∈ GW) (hlk : Cond.methodLink own index y ∈ GW) (hin : Cond.instanceMethod y ∈ GW) (hy1 : y.name = "<init>") (hd : y.cls ≠ "java/lang/invoke/MethodHandle" ∧ y.cls ≠ "java/lang/invoke/VarHandle" ∧ (parseMethodDescriptor y.desc).map (fun d => d.parameters.length) = some n) (hn : As.length = n)
    (hR : k + 1 ≤ R.frames ∧ 8 + (maxL + 11) + 64 * k ≤ R.locals) (hf : cells + mc ≤ R.cells ∧ slots + ms ≤ R.slots) (pl rl : List Nat) (hC : pl.map (fun i => ws[i]?) = wc.map some) (hRl : rl.map (fun i => ws[i]?) = wr.map some) (hn1 : va_nd pl = true) (hn2 : va_nd rl = true) (hdis : ∀ i ∈ rl, i ∉ pl) (hst : st = As.reverse ++ .ref b :: rest) (hW : (rest.map fun v => v.category).sum ≤ 8) (hdg : decode cc pc = .ok (.invokespecial index, 3))
    (kk : ∀ (u : S) (H1 : Heap) (locs1 : List Loc), post u → va_P D vwCl (wr ++ Wf u) H1 → va_D A (wr ++ Wf u) → va_S A s.heap H1 locs1 → W p l e R s m args below meth c H1 locs1 (cells + mc) (slots + ms) Q (F0 m (pc + 3) ls rest)) : W p l e R s m args below meth c H locs cells slots Q (F0 m pc ls st) :=
  MM_gov hP hD hS hA pl rl hC hRl hn2 hdis (va_runI (As := As) (rest := rest) (nL := ls.size) ⟨hexec, hb, hml, hown, hts⟩ hM (cwI n hts (gw_good (gw_cons hcd fun _ h => h)) rfl rfl rfl (hts _ hini) (hts _ hlk) (hts _ hin) hy1 hd hR) ⟨MPre_blind, MM_pre hK hP hD pl hC hn1 (fm_of hC)⟩ rfl hn rfl hst (lv_room hW) hdg hf) kk
/-- .. a private one of a nest mate -/
theorem zm_IN {y : MethodName} {bytes : ByteArray} {maxL index k n mc ms : Nat} {own : String} {b : Addr} {As : List Value} {ws wc wr : va_W} {S : Type} {post : S → Prop} {Wf : S → va_W} (hexec : p.tables.exec = Jvm.exec) (hb : c.code = cc) (hml : c.maxLocals = ls.size) (hts : ∀ w ∈ GW, w.before args s = true) (hown : s.vm.findClass own = some m.cls) (hK : KK D cI cJ s) (hP : va_P D vwCl ws H) (hD : va_D A ws) (hS : va_S A s.heap H locs) (hA : ∀ q : Nat, s.heap.size ≤ q → A q)
    (hM : MMv l y (.code y bytes maxL none) k mc ms (.ref b :: As) D cI cJ wc H.size post Wf) (hcd : Cond.code y bytes maxL none ∈ GW) (hini : Cond.initialized y.cls ∈ GW) (hnt : (own, index, y) ∈ nestT) (hin : Cond.instanceMethod y ∈ GW) (hy1 : y.name = "<init>") (hd : y.cls ≠ "java/lang/invoke/MethodHandle" ∧ y.cls ≠ "java/lang/invoke/VarHandle" ∧ (parseMethodDescriptor y.desc).map (fun d => d.parameters.length) = some n) (hn : As.length = n)
    (hR : k + 1 ≤ R.frames ∧ 8 + (maxL + 11) + 64 * k ≤ R.locals) (hf : cells + mc ≤ R.cells ∧ slots + ms ≤ R.slots) (pl rl : List Nat) (hC : pl.map (fun i => ws[i]?) = wc.map some) (hRl : rl.map (fun i => ws[i]?) = wr.map some) (hn1 : va_nd pl = true) (hn2 : va_nd rl = true) (hdis : ∀ i ∈ rl, i ∉ pl) (hst : st = As.reverse ++ .ref b :: rest) (hW : (rest.map fun v => v.category).sum ≤ 8) (hdg : decode cc pc = .ok (.invokespecial index, 3))
    (kk : ∀ (u : S) (H1 : Heap) (locs1 : List Loc), post u → va_P D vwCl (wr ++ Wf u) H1 → va_D A (wr ++ Wf u) → va_S A s.heap H1 locs1 → W p l e R s m args below meth c H1 locs1 (cells + mc) (slots + ms) Q (F0 m (pc + 3) ls rest)) : W p l e R s m args below meth c H locs cells slots Q (F0 m pc ls st) :=
  MM_gov hP hD hS hA pl rl hC hRl hn2 hdis (va_runIN (host := "Tetherline") (As := As) (rest := rest) (nL := ls.size) ⟨hexec, hb, hml, hown, hts⟩ hM ⟨va_cnB n hts (gw_good (gw_cons hcd fun _ h => h)) rfl rfl rfl (hK.2 _ hnt) (hts _ hini) hd hR, hy1, hts _ hin⟩ ⟨MPre_blind, MM_pre hK hP hD pl hC hn1 (fm_of hC)⟩ rfl hn rfl hst (lv_room hW) hdg hf) kk
/-- an int array is made -/
theorem zm_newa (hexec : p.tables.exec = Jvm.exec) (hb : c.code = cc) (harr : (Cond.arrayClass .int).before args s = true) (hK : KK D cI cJ s) {ws : va_W} (hP : va_P D vwCl ws H) (hD : va_D A ws) (hS : va_S A s.heap H locs) (hA : ∀ q : Nat, s.heap.size ≤ q → A q) {z : Int} {n : Nat} (hz : z = (n : Int)) (hn : n < 1000000) (hcells : cells + 1 ≤ R.cells) (hslots : slots + n ≤ R.slots) (hdg : decode cc pc = .ok (.newarray .int, 2))
    (kk : ∀ (q : Nat) (H1 : Heap), va_P D vwCl (ws ++ [(q, .inl (cI, n, .inl (aI (fun _ => 0))))]) H1 → va_D A (ws ++ [(q, .inl (cI, n, .inl (aI (fun _ => 0))))]) → va_S A s.heap H1 locs →
      W p l e R s m args below meth c H1 locs (cells + 1) (slots + n) Q (F0 m (pc + 2) ls (.ref q :: rest))) : W p l e R s m args below meth c H locs cells slots Q (F0 m pc ls (.int (iI z) :: rest)) := by
  have hr : InR z := ⟨by omega, by omega⟩
  refine va_newa (atype := .int) hexec hb harr rfl hK.1 hP hD hS hA (N' := n) (a0 := (n, .inl (aI (fun _ => 0)))) (fun cA => rfl) (fun h => ?_) ?_ (by show n * 4 ≤ 536870912; omega) hcells hslots hdg (fun q cA H1 k1 k2 k3 k4 => ?_)
  · have := (iI_lt hr ⟨by omega, by omega⟩).mp (show iI z < iI 0 by rw [iI_0]; exact h)
    omega
  · rw [iI_clamp (by omega) (by omega)]; omega
  · have e1 : s.vm.findClass ("[" ++ (FieldType.int).toString) = some cI := (hK.1.2 0 (cI, .int) rfl).2
    have e2 : s.vm.findClass ("[" ++ (FieldType.int).toString) = some cA := (k1.2 1 (cA, .int) rfl).2
    have e3 : cA = cI := Option.some.inj (e2.symm.trans e1)
    subst e3
    exact kk q H1 k2 k3 k4
end MC
theorem gd_vaS {own : String} {idx : Nat} {y : MethodName} {cd : Cond} (h1 : Cond.methodLink own idx y ∈ GW) (h2 : Cond.static y ∈ GW) (h4 : Cond.initialized y.cls ∈ GW) (h5 : cd ∈ GW) : GoodIn GW (va_wsS own idx y (cd :: GW)) :=
  gw_good (gw_cons h1 (gw_cons h2 (gw_cons h4 (gw_cons h5 fun _ h => h))))
