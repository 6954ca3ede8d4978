/-! longs, and the law's calls of methods with a table -/
section ZL
variable {p : Program} {l : Launch} {e : Env} {R : Room} {s : State} {m : MethodId} {args : Array Value} {below : List Frame} {meth : Method} {c : Code} {H : Heap} {locs : List Loc} {cells slots : Nat} {Q : State → Prop}
variable {cc : ByteArray} {pc : Nat} {ls : Array Slot} {rest st : List Value} {D : va_G} {cI cJ : ClassId} {A : Nat → Prop} {a : Nat} {ws : va_W}
theorem in1 : vp_in (iI 0) 1 := iI_in (by decide) (by decide) (by decide)
theorem zv_i2l (hexec : p.tables.exec = Jvm.exec) (hb : c.code = cc) {x : Int} (hdg : decode cc pc = .ok (.i2l, 1))
    (k : W p l e R s m args below meth c H locs cells slots Q (F0 m (pc + 1) ls (.long (iI x).toInt64 :: rest))) : W p l e R s m args below meth c H locs cells slots Q (F0 m pc ls (.int (iI x) :: rest)) := lv_i2l hexec hb hdg rfl k
theorem zv_last (hexec : p.tables.exec = Jvm.exec) (hb : c.code = cc) {tys : List (ClassId × FieldType)} {H0 : Heap} (hK : va_K D vwCl tys s) (hP : va_P D vwCl ws H) (hD : va_D A ws) (hS : va_S A H0 H locs) (q0 t0 : Nat) {cA : ClassId} {f : Nat → Int64} (ha : ws[q0]? = some (a, .inl (cA, 1, .inr (.inl f)))) (ht : tys[t0]? = some (cA, .long)) {x : Int64} (hdg : decode cc pc = .ok (.lastore, 1))
    (kk : ∀ (g : Nat → Int64) (H1 : Heap) (locs1 : List Loc), g 0 = x → va_P D vwCl (ws.set q0 (a, .inl (cA, 1, .inr (.inl g)))) H1 → va_D A (ws.set q0 (a, .inl (cA, 1, .inr (.inl g)))) → va_S A H0 H1 locs1 → W p l e R s m args below meth c H1 locs1 cells slots Q (F0 m (pc + 1) ls rest)) : W p l e R s m args below meth c H locs cells slots Q (F0 m pc ls (.long x :: .int (iI 0) :: .ref a :: rest)) :=
  va_last hexec hb hK hP hD hS q0 t0 ha ht in1 hdg (fun H1 locs1 k1 k2 k3 => kk _ H1 locs1 (by show vp_updL f (iI 0).toNatClampNeg x 0 = x; rfl) k1 k2 k3)
theorem zv_lald (hexec : p.tables.exec = Jvm.exec) (hb : c.code = cc) {tys : List (ClassId × FieldType)} (hK : va_K D vwCl tys s) (hP : va_P D vwCl ws H) (q0 t0 : Nat) {cA : ClassId} {f : Nat → Int64} (ha : ws[q0]? = some (a, .inl (cA, 1, .inr (.inl f)))) (ht : tys[t0]? = some (cA, .long)) (hdg : decode cc pc = .ok (.laload, 1))
    (kk : W p l e R s m args below meth c H locs cells slots Q (F0 m (pc + 1) ls (.long (f 0) :: rest))) : W p l e R s m args below meth c H locs cells slots Q (F0 m pc ls (.int (iI 0) :: .ref a :: rest)) :=
  va_lald hexec hb hK hP q0 t0 ha ht in1 hdg kk
theorem zv_lcmpE (hexec : p.tables.exec = Jvm.exec) (hb : c.code = cc) {x y : Int64} (hxy : x = y) (hdg : decode cc pc = .ok (.lcmp, 1))
    (k : W p l e R s m args below meth c H locs cells slots Q (F0 m (pc + 1) ls (.int (iI 0) :: rest))) : W p l e R s m args below meth c H locs cells slots Q (F0 m pc ls (.long y :: .long x :: rest)) := by
  refine W.lcmp hexec hb hdg ?_
  rw [show lg_cmp x y = iI 0 by rw [hxy]; unfold lg_cmp; rw [if_neg (by simp), if_pos rfl]; rfl]
  exact k
/-- a static call of a method with handlers, out of which nothing comes thrown -/
theorem zx_S {y : MethodName} {bytes : ByteArray} {maxL index k n mc ms : Nat} {ret : Option FieldType} {hh : List (Nat × Nat × Nat × Nat)} {own : String} {As : List Value} {ws wc wr : va_W} {S : Type} {post : Int → S → Prop} {Wf : S → va_W} (hexec : p.tables.exec = Jvm.exec) (hb : c.code = cc) (hml : c.maxLocals = ls.size) (hts : ∀ w ∈ GW, w.before args s = true) (hown : s.vm.findClass own = some m.cls) (hK : KK D cI cJ s) (hP : va_P D vwCl ws H) (hD : va_D A ws) (hS : va_S A s.heap H locs) (hA : ∀ q : Nat, s.heap.size ≤ q → A q) (hE : EX A s s.heap)
    (hM : VMi l y (.codeWith y bytes maxL ret hh) k mc ms As D cI cJ wc H.size post Wf (fun _ _ => False)) (hG : GoodIn GW (va_wsS own index y (.codeWith y bytes maxL ret hh :: GW))) (hd : y.cls ≠ "java/lang/invoke/MethodHandle" ∧ y.cls ≠ "java/lang/invoke/VarHandle" ∧ (parseMethodDescriptor y.desc).map (fun d => d.parameters.length) = some n) (hn : As.length = n)
    (hR : k + 1 ≤ R.frames ∧ 8 + (maxL + 11) + 64 * k ≤ R.locals) (hf : cells + mc ≤ R.cells ∧ slots + ms ≤ R.slots) (pl rl : List Nat) (hC : pl.map (fun i => ws[i]?) = wc.map some) (hRl : rl.map (fun i => ws[i]?) = wr.map some) (hn1 : va_nd pl = true) (hn2 : va_nd rl = true) (hdis : ∀ i ∈ rl, i ∉ pl) (hst : st = As.reverse ++ rest) (hW : (rest.map fun v => v.category).sum ≤ 8) (hdg : decode cc pc = .ok (.invokestatic index, 3))
    (kk : ∀ (r : Int) (u : S) (H1 : Heap) (locs1 : List Loc), post r u → va_P D vwCl (wr ++ Wf u) H1 → va_D A (wr ++ Wf u) → va_S A s.heap H1 locs1 → W p l e R s m args below meth c H1 locs1 (cells + mc) (slots + ms) Q (F0 m (pc + 3) ls (.int (iI r) :: rest))) : W p l e R s m args below meth c H locs cells slots Q (F0 m pc ls st) :=
  VM_goi hP hD hS hA pl rl hC hRl hn2 hdis (vx_runSX (As := As) (rest := rest) (nL := ls.size) ⟨hexec, hb, hml, hown, hts⟩ hM (vx_cwSW n hts hG rfl rfl rfl hd hR) ⟨VPre_blind, VM_pre hK hP hD hS hA hE pl hC hn1 (fm_of hC)⟩ rfl hn rfl hst (lv_room hW) hdg hf) (fun _ _ _ _ _ _ h => h.elim) kk
end ZL
