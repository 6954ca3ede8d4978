/-! what every method's start says of the tables: the classes, the arrays' classes, the nest's links -/
def nestT : List (String × Nat × MethodName) := [(RX2, 11, yX1_init), (RX0, 39, yX2_squareOf), (RX0, 42, yX2_columnOf), (RX0, 45, yX2_rowOf), (RX0, 48, yX2_wordOf), (RX0, 65, yX2_squareAt), (RX0, 73, yX2_placeOf), (RX0, 76, yX2_withLetter), (RX0, 79, yX2_oppositeOf)]
def NN (U : State) : Prop := ∀ t ∈ nestT, va_Nw (.methodLinkNest t.1 t.2.1 t.2.2 "Tetherline") U
abbrev aT (cI cJ : ClassId) : List (ClassId × FieldType) := [(cI, .int)]
def KK (D : va_G) (cI cJ : ClassId) (U : State) : Prop := va_K D vwCl (aT cI cJ) U ∧ NN U
theorem NN.warm {s U : State} (hW : s.WarmedH U.vm) (h : NN s) : NN U := fun t ht => va_Nw.warmM hW (h t ht)
theorem NN.same {s U : State} (hv : s.vm = U.vm) (h : NN s) : NN U := fun t ht => va_Nw.same rfl hv (h t ht)
theorem KK.warm {D : va_G} {cI cJ : ClassId} {s U : State} (hW : s.WarmedH U.vm) (h : KK D cI cJ s) : KK D cI cJ U := ⟨va_K.moved hW.alike h.1, h.2.warm hW⟩
theorem KK.calling {D : va_G} {cI cJ : ClassId} {U : State} {g : JFrame} {mk : MethodId} {a : Array Value} (h : KK D cI cJ U) : KK D cI cJ (U.calling g mk a) := ⟨va_K.moved (u := U) (U := U.calling g mk a) (Vm.Alike.refl U.vm) h.1, h.2.same rfl⟩
def lvl (k : Nat) : Room := { frames := k, cells := 0, slots := 0, locals := 64 * k }
/-- a method that only reads the cells ws, and answers an int -/
def PPre (D : va_G) (cI cJ : ClassId) (ws : va_W) : State → Prop := fun U => KK D cI cJ U ∧ va_P D vwCl ws U.heap
def PQ (post : Int → Prop) : Array Value → State → Outcome → State → Prop := fun _ st o t => (∃ r : Int, o = .returned (some (.int (iI r))) ∧ post r) ∧ t.heap = st.heap
def PM (l : Launch) (y : MethodName) (cd : Cond) (k : Nat) (As : List Value) (D : va_G) (cI cJ : ClassId) (ws : va_W) (post : Int → Prop) : Prop :=
  Met l y (cd :: GW) (lvl k) (va_Pc As (PPre D cI cJ ws)) (PQ post) 0 0 (fun _ => False)
theorem PM_blind {As : List Value} {D : va_G} {cI cJ : ClassId} {ws : va_W} : FrameBlind (va_Pc As (PPre D cI cJ ws)) := fun a U g mk q => ⟨q.1, q.2.1.calling, q.2.2⟩
theorem PM_of {l : Launch} {y : MethodName} {k : Nat} {As : List Value} {D : va_G} {cI cJ : ClassId} {ws : va_W} {post : Int → Prop} {cc : ByteArray} {maxL : Nat} {ret : Option FieldType} {own : String}
    (hy : plainName y.cls = true) (ho : y.cls = own) (hn : (lg_sl As).length ≤ maxL)
    (body : ∀ (p : Program) (e : Env) (s : State) (m : MethodId) (below : List Frame) (meth : Method) (c : Code) (ls : Array Slot), p.tables.exec = Jvm.exec → c.code = cc → meth.sig.returnType = ret → (∀ w ∈ GW, w.before As.toArray s = true) → s.vm.findClass own = some m.cls → meth.locks = false → c.maxLocals = maxL → KK D cI cJ s → va_P D vwCl ws s.heap → lv_has ls maxL (lv_args 0 As) →
      W p l e (lvl k) s m As.toArray below meth c s.heap [] 0 0 (MQ below (PQ post) As.toArray s 0 0 (fun _ => False)) (F0 m 0 ls [])) : PM l y (.code y cc maxL ret) k As D cI cJ ws post := by
  refine Met.ofW (cc := cc) (maxL := maxL) (ret := ret) hy rfl ?_
  intro p e s m args below meth c s₁ B hml hv
  obtain ⟨rfl, hK, hP⟩ := hv
  have hts := atoms_spec (ws := Cond.code y cc maxL ret :: GW) B.pre
  have hl := lv_entry As (n := maxL) hn
  rw [lg_entry_eq]
  exact body p e s m below meth c _ B.exec B.bytes B.returns (fun w h => hts w (List.mem_cons_of_mem _ h)) (by rw [← ho]; exact findClass_of_methodNamed B.named) B.notSynchronized hml hK hP hl
section PC
variable {p : Program} {l : Launch} {e : Env} {R : Room} {s : State} {m : MethodId} {args : Array Value} {below : List Frame} {meth : Method} {c : Code} {H : Heap} {locs : List Loc} {cells slots : Nat} {Q : State → Prop}
variable {cc : ByteArray} {pc : Nat} {ls : Array Slot} {rest st : List Value} {D : va_G} {cI cJ : ClassId}
theorem PM_iret {post : Int → Prop} {x : Int} (hexec : p.tables.exec = Jvm.exec) (hb : c.code = cc) (hr : meth.sig.returnType = some .int) (hlocks : meth.locks = false) (hdg : decode cc pc = .ok (.ireturn, 1)) (hq : post x) :
    W p l e R s m args below meth c s.heap [] 0 0 (MQ below (PQ post) args s 0 0 (fun _ => False)) (F0 m pc ls [.int (iI x)]) :=
  W.iret hexec hb hr (fun t ht hW => ⟨⟨x, rfl, hq⟩, ht⟩) (fun _ h => nomatch h) hdg hlocks
theorem PM_zret {post : Int → Prop} {x : Int} (hexec : p.tables.exec = Jvm.exec) (hb : c.code = cc) (hr : meth.sig.returnType = some .boolean) (hlocks : meth.locks = false) (hdg : decode cc pc = .ok (.ireturn, 1)) (hn : narrow .boolean (.int (iI x)) = .int (iI x)) (hq : post x) :
    W p l e R s m args below meth c s.heap [] 0 0 (MQ below (PQ post) args s 0 0 (fun _ => False)) (F0 m pc ls [.int (iI x)]) :=
  W.zret hexec hb hr hn (fun t ht hW => ⟨⟨x, rfl, hq⟩, ht⟩) (fun _ h => nomatch h) hdg hlocks
theorem PM_goes {y : MethodName} {cd : Cond} {k : Nat} {As : List Value} {ws : va_W} {post : Int → Prop} {a : Array Value} (hr : va_Run p l e R s m args below meth c H locs cells slots 0 0 (F0 m pc ls st) rest (PQ post a) (fun _ => False))
    (kk : ∀ r : Int, post r → W p l e R s m args below meth c H locs cells slots Q (F0 m (pc + 3) ls (.int (iI r) :: rest))) : W p l e R s m args below meth c H locs cells slots Q (F0 m pc ls st) := by
  intro T hT X
  obtain ⟨v, st₀, t, T', L, h0, X', hL, e1, e2, ⟨⟨r, hv, hp⟩, hh⟩, hg⟩ := hr T hT X
  cases hv
  obtain ⟨t2, a1, b1⟩ := kk r hp T' (by rw [e1, hh, h0]) (Stand.forget X' (fun q h => (hL q h).elim))
  exact ⟨t2, hg t2 a1, b1⟩
/-- a call of a reading method on an object of the world -/
theorem zc_V {y : MethodName} {bytes : ByteArray} {maxL index k n : Nat} {ret : Option FieldType} {own C : String} {b : Addr} {As : List Value} {ws ws' : va_W} {post : Int → Prop} (hexec : p.tables.exec = Jvm.exec) (hb : c.code = cc) (hml : c.maxLocals = ls.size) (hts : ∀ w ∈ GW, w.before args s = true) (hown : s.vm.findClass own = some m.cls) (hK : KK D cI cJ s) (hP : va_P D vwCl ws H)
    (hM : PM l y (.code y bytes maxL ret) k (.ref b :: As) D cI cJ ws' post) (hG : GoodIn GW (wsV own index C y (.code y bytes maxL ret :: GW))) (hd : y.cls = C ∧ y.cls ≠ "java/lang/invoke/MethodHandle" ∧ y.cls ≠ "java/lang/invoke/VarHandle" ∧ (parseMethodDescriptor y.desc).map (fun d => d.parameters.length) = some n) (hn : As.length = n)
    (hR : k + 1 ≤ R.frames ∧ 8 + (maxL + 11) + 64 * k ≤ R.locals) (hf : cells ≤ R.cells ∧ slots ≤ R.slots) (pl : List Nat) (hs : pl.filterMap (fun i => ws[i]?) = ws') (q0 : Nat) {ci : Nat} {fs : List Value} {q : vw_C} (hc : vwCl[ci]? = some q) (hq : q.1 = C) (he : ws[q0]? = some (b, .inr (ci, fs))) (hst : st = As.reverse ++ .ref b :: rest) (hW : (rest.map fun v => v.category).sum ≤ 8) (hdg : decode cc pc = .ok (.invokevirtual index, 3))
    (kk : ∀ r : Int, post r → W p l e R s m args below meth c H locs cells slots Q (F0 m (pc + 3) ls (.int (iI r) :: rest))) : W p l e R s m args below meth c H locs cells slots Q (F0 m pc ls st) := by
  have hr := va_recv hK.1 hP hc he
  rw [hq] at hr
  refine PM_goes (y := y) (cd := .code y bytes maxL ret) (k := k) (As := .ref b :: As) (ws := ws') (va_runV (C := C) (As := As) (rest := rest) (nL := ls.size) ⟨hexec, hb, hml, hown, hts⟩ hM (cwV n hts hG rfl rfl rfl hd hR) ⟨PM_blind, hr, fun U hU hW => ⟨rfl, hK.warm hW, by rw [hU]; exact hP.sub pl hs⟩⟩ rfl hn rfl hst (lv_room hW) hdg hf) kk
/-- a call of a static one of the same class, which reads nothing -/
theorem zc_S {y : MethodName} {bytes : ByteArray} {maxL index k n : Nat} {ret : Option FieldType} {own : String} {As : List Value} {ws ws' : va_W} {post : Int → Prop} (hexec : p.tables.exec = Jvm.exec) (hb : c.code = cc) (hml : c.maxLocals = ls.size) (hts : ∀ w ∈ GW, w.before args s = true) (hown : s.vm.findClass own = some m.cls) (hK : KK D cI cJ s) (hP : va_P D vwCl ws H)
    (hM : PM l y (.code y bytes maxL ret) k As D cI cJ ws' post) (hG : GoodIn GW (wsS own index y (.code y bytes maxL ret :: GW))) (hd : y.cls = own ∧ y.cls ≠ "java/lang/invoke/MethodHandle" ∧ y.cls ≠ "java/lang/invoke/VarHandle" ∧ (parseMethodDescriptor y.desc).map (fun d => d.parameters.length) = some n) (hn : As.length = n)
    (hR : k + 1 ≤ R.frames ∧ 8 + (maxL + 11) + 64 * k ≤ R.locals) (hf : cells ≤ R.cells ∧ slots ≤ R.slots) (pl : List Nat) (hs : pl.filterMap (fun i => ws[i]?) = ws') (hst : st = As.reverse ++ rest) (hW : (rest.map fun v => v.category).sum ≤ 8) (hdg : decode cc pc = .ok (.invokestatic index, 3))
    (kk : ∀ r : Int, post r → W p l e R s m args below meth c H locs cells slots Q (F0 m (pc + 3) ls (.int (iI r) :: rest))) : W p l e R s m args below meth c H locs cells slots Q (F0 m pc ls st) :=
  PM_goes (y := y) (cd := .code y bytes maxL ret) (k := k) (As := As) (ws := ws') (va_runS (As := As) (rest := rest) (nL := ls.size) ⟨hexec, hb, hml, hown, hts⟩ hM (cwS n hts hG rfl rfl rfl hd hR) ⟨PM_blind, fun U hU hW => ⟨rfl, hK.warm hW, by rw [hU]; exact hP.sub pl hs⟩⟩ rfl hn rfl hst (lv_room hW) hdg hf) kk
/-- .. a private static one of a nest mate -/
theorem zc_SN {y : MethodName} {bytes : ByteArray} {maxL index k n : Nat} {ret : Option FieldType} {own : String} {As : List Value} {ws ws' : va_W} {post : Int → Prop} (hexec : p.tables.exec = Jvm.exec) (hb : c.code = cc) (hml : c.maxLocals = ls.size) (hts : ∀ w ∈ GW, w.before args s = true) (hown : s.vm.findClass own = some m.cls) (hK : KK D cI cJ s) (hP : va_P D vwCl ws H)
    (hM : PM l y (.code y bytes maxL ret) k As D cI cJ ws' post) (hcd : Cond.code y bytes maxL ret ∈ GW) (hsta : Cond.static y ∈ GW) (hini : Cond.initialized y.cls ∈ GW) (hnt : (own, index, y) ∈ nestT) (hd : y.cls ≠ "java/lang/invoke/MethodHandle" ∧ y.cls ≠ "java/lang/invoke/VarHandle" ∧ (parseMethodDescriptor y.desc).map (fun d => d.parameters.length) = some n) (hn : As.length = n)
    (hR : k + 1 ≤ R.frames ∧ 8 + (maxL + 11) + 64 * k ≤ R.locals) (hf : cells ≤ R.cells ∧ slots ≤ R.slots) (pl : List Nat) (hs : pl.filterMap (fun i => ws[i]?) = ws') (hst : st = As.reverse ++ rest) (hW : (rest.map fun v => v.category).sum ≤ 8) (hdg : decode cc pc = .ok (.invokestatic index, 3))
    (kk : ∀ r : Int, post r → W p l e R s m args below meth c H locs cells slots Q (F0 m (pc + 3) ls (.int (iI r) :: rest))) : W p l e R s m args below meth c H locs cells slots Q (F0 m pc ls st) :=
  PM_goes (y := y) (cd := .code y bytes maxL ret) (k := k) (As := As) (ws := ws') (va_runSN (host := "Tetherline") (As := As) (rest := rest) (nL := ls.size) ⟨hexec, hb, hml, hown, hts⟩ hM ⟨va_cnB n hts (gw_good (gw_cons hcd fun _ h => h)) rfl rfl rfl (hK.2 _ hnt) (hts _ hini) hd hR, hts _ hsta, trivial⟩ ⟨PM_blind, fun U hU hW => ⟨rfl, hK.warm hW, by rw [hU]; exact hP.sub pl hs⟩⟩ rfl hn rfl hst (lv_room hW) hdg hf) kk
end PC
theorem gd_V {own C : String} {idx : Nat} {y : MethodName} {cd : Cond} (h1 : Cond.methodLink own idx y ∈ GW) (h2 : Cond.instanceMethod y ∈ GW) (h3 : Cond.selects C y y ∈ GW) (h4 : Cond.initialized C ∈ GW) (h5 : cd ∈ GW) : GoodIn GW (wsV own idx C y (cd :: GW)) :=
  gw_good (gw_cons h1 (gw_cons h2 (gw_cons h3 (gw_cons h4 (gw_cons h5 fun _ h => h)))))
theorem gd_S {own : String} {idx : Nat} {y : MethodName} {cd : Cond} (h1 : Cond.methodLink own idx y ∈ GW) (h2 : Cond.static y ∈ GW) (h4 : Cond.initialized own ∈ GW) (h5 : cd ∈ GW) : GoodIn GW (wsS own idx y (cd :: GW)) :=
  gw_good (gw_cons h1 (gw_cons h2 (gw_cons h4 (gw_cons h5 fun _ h => h))))
