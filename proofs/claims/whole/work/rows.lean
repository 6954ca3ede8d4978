section
-- ===== PART A: goes FIRST, ahead of the names: the tables' words, and 'selects' of the private methods out of them =====
/-- a private method of a class that the tables say can be made, by its rows of tables_1 -/
def lw_okq (q : MethodName × Nat) : Prop := (q.1.cls ≠ "java/lang/invoke/MethodHandle" ∧ q.1.cls ≠ "java/lang/invoke/VarHandle") ∧ Cond.instantiable q.1.cls q.2 ∈ tables_1 ∧ Cond.privateMethod q.1 ∈ tables_1 ∧ Cond.instanceMethod q.1 ∈ tables_1
theorem lw_p0 : lw_okq (⟨"Tetherline", "measureLengths", "()V"⟩, 7) := ⟨⟨by decide +kernel, by decide +kernel⟩, List.mem_of_getElem? (i := 15) (by decide +kernel), List.mem_of_getElem? (i := 77) (by decide +kernel), List.mem_of_getElem? (i := 78) (by decide +kernel)⟩
theorem lw_p1 : lw_okq (⟨"Tetherline$Spread", "add", "(II)V"⟩, 3) := ⟨⟨by decide +kernel, by decide +kernel⟩, List.mem_of_getElem? (i := 23) (by decide +kernel), List.mem_of_getElem? (i := 86) (by decide +kernel), List.mem_of_getElem? (i := 87) (by decide +kernel)⟩
theorem lw_p2 : lw_okq (⟨"Tetherline$Floor", "placeAt", "(III)I"⟩, 4) := ⟨⟨by decide +kernel, by decide +kernel⟩, List.mem_of_getElem? (i := 40) (by decide +kernel), List.mem_of_getElem? (i := 114) (by decide +kernel), List.mem_of_getElem? (i := 115) (by decide +kernel)⟩
theorem lw_p3 : lw_okq (⟨"Tetherline$Floor", "pillarNumberOf", "(I)I"⟩, 4) := ⟨⟨by decide +kernel, by decide +kernel⟩, List.mem_of_getElem? (i := 40) (by decide +kernel), List.mem_of_getElem? (i := 127) (by decide +kernel), List.mem_of_getElem? (i := 128) (by decide +kernel)⟩
theorem lw_p4 : lw_okq (⟨"Tetherline$Floor", "wordToTheRight", "(III)I"⟩, 4) := ⟨⟨by decide +kernel, by decide +kernel⟩, List.mem_of_getElem? (i := 40) (by decide +kernel), List.mem_of_getElem? (i := 132) (by decide +kernel), List.mem_of_getElem? (i := 133) (by decide +kernel)⟩
theorem lw_p5 : lw_okq (⟨"Tetherline$Floor", "wordToTheLeft", "(III)I"⟩, 4) := ⟨⟨by decide +kernel, by decide +kernel⟩, List.mem_of_getElem? (i := 40) (by decide +kernel), List.mem_of_getElem? (i := 145) (by decide +kernel), List.mem_of_getElem? (i := 146) (by decide +kernel)⟩
theorem lw_p6 : lw_okq (⟨"Tetherline", "cableDirection", "(I)I"⟩, 7) := ⟨⟨by decide +kernel, by decide +kernel⟩, List.mem_of_getElem? (i := 15) (by decide +kernel), List.mem_of_getElem? (i := 217) (by decide +kernel), List.mem_of_getElem? (i := 218) (by decide +kernel)⟩
theorem lw_p7 : lw_okq (⟨"Tetherline", "leastLengthOf", "(I)I"⟩, 7) := ⟨⟨by decide +kernel, by decide +kernel⟩, List.mem_of_getElem? (i := 15) (by decide +kernel), List.mem_of_getElem? (i := 225) (by decide +kernel), List.mem_of_getElem? (i := 226) (by decide +kernel)⟩
theorem lw_p8 : lw_okq (⟨"Tetherline", "isWithinLimit", "(I)Z"⟩, 7) := ⟨⟨by decide +kernel, by decide +kernel⟩, List.mem_of_getElem? (i := 15) (by decide +kernel), List.mem_of_getElem? (i := 229) (by decide +kernel), List.mem_of_getElem? (i := 230) (by decide +kernel)⟩
theorem lw_p9 : lw_okq (⟨"Tetherline", "requireSquare", "(II)V"⟩, 7) := ⟨⟨by decide +kernel, by decide +kernel⟩, List.mem_of_getElem? (i := 15) (by decide +kernel), List.mem_of_getElem? (i := 245) (by decide +kernel), List.mem_of_getElem? (i := 246) (by decide +kernel)⟩
theorem lw_p10 : lw_okq (⟨"java/lang/Throwable", "fillInStackTrace", "(I)Ljava/lang/Throwable;"⟩, 6) := ⟨⟨by decide +kernel, by decide +kernel⟩, List.mem_of_getElem? (i := 289) (by decide +kernel), List.mem_of_getElem? (i := 287) (by decide +kernel), List.mem_of_getElem? (i := 288) (by decide +kernel)⟩
theorem lw_p11 : lw_okq (⟨"Tetherline", "afterStep", "(II)I"⟩, 7) := ⟨⟨by decide +kernel, by decide +kernel⟩, List.mem_of_getElem? (i := 15) (by decide +kernel), List.mem_of_getElem? (i := 377) (by decide +kernel), List.mem_of_getElem? (i := 378) (by decide +kernel)⟩
theorem lw_p12 : lw_okq (⟨"Tetherline", "nearestPlaceOf", "(I)I"⟩, 7) := ⟨⟨by decide +kernel, by decide +kernel⟩, List.mem_of_getElem? (i := 15) (by decide +kernel), List.mem_of_getElem? (i := 390) (by decide +kernel), List.mem_of_getElem? (i := 391) (by decide +kernel)⟩
theorem lw_p13 : lw_okq (⟨"Tetherline", "alongCable", "(I)I"⟩, 7) := ⟨⟨by decide +kernel, by decide +kernel⟩, List.mem_of_getElem? (i := 15) (by decide +kernel), List.mem_of_getElem? (i := 418) (by decide +kernel), List.mem_of_getElem? (i := 419) (by decide +kernel)⟩
theorem lw_p14 : lw_okq (⟨"TetherlineModel", "searches", "()V"⟩, 14) := ⟨⟨by decide +kernel, by decide +kernel⟩, List.mem_of_getElem? (i := 477) (by decide +kernel), List.mem_of_getElem? (i := 486) (by decide +kernel), List.mem_of_getElem? (i := 487) (by decide +kernel)⟩
theorem lw_p15 : lw_okq (⟨"TetherlineModel", "after", "(II)I"⟩, 14) := ⟨⟨by decide +kernel, by decide +kernel⟩, List.mem_of_getElem? (i := 477) (by decide +kernel), List.mem_of_getElem? (i := 490) (by decide +kernel), List.mem_of_getElem? (i := 491) (by decide +kernel)⟩
def lw_privs_1 : List (MethodName × Nat) := [(⟨"Tetherline", "measureLengths", "()V"⟩, 7), (⟨"Tetherline$Spread", "add", "(II)V"⟩, 3), (⟨"Tetherline$Floor", "placeAt", "(III)I"⟩, 4), (⟨"Tetherline$Floor", "pillarNumberOf", "(I)I"⟩, 4), (⟨"Tetherline$Floor", "wordToTheRight", "(III)I"⟩, 4), (⟨"Tetherline$Floor", "wordToTheLeft", "(III)I"⟩, 4), (⟨"Tetherline", "cableDirection", "(I)I"⟩, 7), (⟨"Tetherline", "leastLengthOf", "(I)I"⟩, 7), (⟨"Tetherline", "isWithinLimit", "(I)Z"⟩, 7), (⟨"Tetherline", "requireSquare", "(II)V"⟩, 7), (⟨"java/lang/Throwable", "fillInStackTrace", "(I)Ljava/lang/Throwable;"⟩, 6), (⟨"Tetherline", "afterStep", "(II)I"⟩, 7), (⟨"Tetherline", "nearestPlaceOf", "(I)I"⟩, 7), (⟨"Tetherline", "alongCable", "(I)I"⟩, 7), (⟨"TetherlineModel", "searches", "()V"⟩, 14), (⟨"TetherlineModel", "after", "(II)I"⟩, 14)]
theorem lw_r1 : ∀ q ∈ lw_privs_1, lw_okq q := List.forall_mem_cons.mpr ⟨lw_p0, List.forall_mem_cons.mpr ⟨lw_p1, List.forall_mem_cons.mpr ⟨lw_p2, List.forall_mem_cons.mpr ⟨lw_p3, List.forall_mem_cons.mpr ⟨lw_p4, List.forall_mem_cons.mpr ⟨lw_p5, List.forall_mem_cons.mpr ⟨lw_p6, List.forall_mem_cons.mpr ⟨lw_p7, List.forall_mem_cons.mpr ⟨lw_p8, List.forall_mem_cons.mpr ⟨lw_p9, List.forall_mem_cons.mpr ⟨lw_p10, List.forall_mem_cons.mpr ⟨lw_p11, List.forall_mem_cons.mpr ⟨lw_p12, List.forall_mem_cons.mpr ⟨lw_p13, List.forall_mem_cons.mpr ⟨lw_p14, List.forall_mem_cons.mpr ⟨lw_p15, fun _ h => absurd h List.not_mem_nil⟩⟩⟩⟩⟩⟩⟩⟩⟩⟩⟩⟩⟩⟩⟩⟩
theorem lw_p16 : lw_okq (⟨"TetherlineModel", "isSquare", "(II)Z"⟩, 14) := ⟨⟨by decide +kernel, by decide +kernel⟩, List.mem_of_getElem? (i := 477) (by decide +kernel), List.mem_of_getElem? (i := 494) (by decide +kernel), List.mem_of_getElem? (i := 495) (by decide +kernel)⟩
theorem lw_p17 : lw_okq (⟨"TetherlineModel", "isPillar", "(I)Z"⟩, 14) := ⟨⟨by decide +kernel, by decide +kernel⟩, List.mem_of_getElem? (i := 477) (by decide +kernel), List.mem_of_getElem? (i := 504) (by decide +kernel), List.mem_of_getElem? (i := 505) (by decide +kernel)⟩
theorem lw_p18 : lw_okq (⟨"TetherlineModel", "goesRight", "(III)I"⟩, 14) := ⟨⟨by decide +kernel, by decide +kernel⟩, List.mem_of_getElem? (i := 477) (by decide +kernel), List.mem_of_getElem? (i := 508) (by decide +kernel), List.mem_of_getElem? (i := 509) (by decide +kernel)⟩
theorem lw_p19 : lw_okq (⟨"TetherlineModel", "pillarBelow", "(II)I"⟩, 14) := ⟨⟨by decide +kernel, by decide +kernel⟩, List.mem_of_getElem? (i := 477) (by decide +kernel), List.mem_of_getElem? (i := 512) (by decide +kernel), List.mem_of_getElem? (i := 513) (by decide +kernel)⟩
theorem lw_p20 : lw_okq (⟨"TetherlineModel", "goesLeft", "(III)I"⟩, 14) := ⟨⟨by decide +kernel, by decide +kernel⟩, List.mem_of_getElem? (i := 477) (by decide +kernel), List.mem_of_getElem? (i := 519) (by decide +kernel), List.mem_of_getElem? (i := 520) (by decide +kernel)⟩
theorem lw_p21 : lw_okq (⟨"TetherlineModel", "pillarAbove", "(III)I"⟩, 14) := ⟨⟨by decide +kernel, by decide +kernel⟩, List.mem_of_getElem? (i := 477) (by decide +kernel), List.mem_of_getElem? (i := 523) (by decide +kernel), List.mem_of_getElem? (i := 524) (by decide +kernel)⟩
theorem lw_p22 : lw_okq (⟨"TetherlineModel", "holds", "(I)Z"⟩, 14) := ⟨⟨by decide +kernel, by decide +kernel⟩, List.mem_of_getElem? (i := 477) (by decide +kernel), List.mem_of_getElem? (i := 578) (by decide +kernel), List.mem_of_getElem? (i := 579) (by decide +kernel)⟩
theorem lw_p23 : lw_okq (⟨"TetherlineModel", "place", "()I"⟩, 14) := ⟨⟨by decide +kernel, by decide +kernel⟩, List.mem_of_getElem? (i := 477) (by decide +kernel), List.mem_of_getElem? (i := 590) (by decide +kernel), List.mem_of_getElem? (i := 591) (by decide +kernel)⟩
theorem lw_p24 : lw_okq (⟨"TetherlineModel", "isAble", "(I)Z"⟩, 14) := ⟨⟨by decide +kernel, by decide +kernel⟩, List.mem_of_getElem? (i := 477) (by decide +kernel), List.mem_of_getElem? (i := 594) (by decide +kernel), List.mem_of_getElem? (i := 595) (by decide +kernel)⟩
theorem lw_p25 : lw_okq (⟨"TetherlineModel", "puts", "(I)V"⟩, 14) := ⟨⟨by decide +kernel, by decide +kernel⟩, List.mem_of_getElem? (i := 477) (by decide +kernel), List.mem_of_getElem? (i := 598) (by decide +kernel), List.mem_of_getElem? (i := 599) (by decide +kernel)⟩
theorem lw_p26 : lw_okq (⟨"TetherlineModel", "sought", "(I)I"⟩, 14) := ⟨⟨by decide +kernel, by decide +kernel⟩, List.mem_of_getElem? (i := 477) (by decide +kernel), List.mem_of_getElem? (i := 606) (by decide +kernel), List.mem_of_getElem? (i := 607) (by decide +kernel)⟩
theorem lw_p27 : lw_okq (⟨"TetherlineModel", "along", "(I)I"⟩, 14) := ⟨⟨by decide +kernel, by decide +kernel⟩, List.mem_of_getElem? (i := 477) (by decide +kernel), List.mem_of_getElem? (i := 614) (by decide +kernel), List.mem_of_getElem? (i := 615) (by decide +kernel)⟩
theorem lw_p28 : lw_okq (⟨"TetherlineModel", "leastOf", "(I)I"⟩, 14) := ⟨⟨by decide +kernel, by decide +kernel⟩, List.mem_of_getElem? (i := 477) (by decide +kernel), List.mem_of_getElem? (i := 665) (by decide +kernel), List.mem_of_getElem? (i := 666) (by decide +kernel)⟩
def lw_privs_2 : List (MethodName × Nat) := [(⟨"TetherlineModel", "isSquare", "(II)Z"⟩, 14), (⟨"TetherlineModel", "isPillar", "(I)Z"⟩, 14), (⟨"TetherlineModel", "goesRight", "(III)I"⟩, 14), (⟨"TetherlineModel", "pillarBelow", "(II)I"⟩, 14), (⟨"TetherlineModel", "goesLeft", "(III)I"⟩, 14), (⟨"TetherlineModel", "pillarAbove", "(III)I"⟩, 14), (⟨"TetherlineModel", "holds", "(I)Z"⟩, 14), (⟨"TetherlineModel", "place", "()I"⟩, 14), (⟨"TetherlineModel", "isAble", "(I)Z"⟩, 14), (⟨"TetherlineModel", "puts", "(I)V"⟩, 14), (⟨"TetherlineModel", "sought", "(I)I"⟩, 14), (⟨"TetherlineModel", "along", "(I)I"⟩, 14), (⟨"TetherlineModel", "leastOf", "(I)I"⟩, 14)]
theorem lw_r2 : ∀ q ∈ lw_privs_2, lw_okq q := List.forall_mem_cons.mpr ⟨lw_p16, List.forall_mem_cons.mpr ⟨lw_p17, List.forall_mem_cons.mpr ⟨lw_p18, List.forall_mem_cons.mpr ⟨lw_p19, List.forall_mem_cons.mpr ⟨lw_p20, List.forall_mem_cons.mpr ⟨lw_p21, List.forall_mem_cons.mpr ⟨lw_p22, List.forall_mem_cons.mpr ⟨lw_p23, List.forall_mem_cons.mpr ⟨lw_p24, List.forall_mem_cons.mpr ⟨lw_p25, List.forall_mem_cons.mpr ⟨lw_p26, List.forall_mem_cons.mpr ⟨lw_p27, List.forall_mem_cons.mpr ⟨lw_p28, fun _ h => absurd h List.not_mem_nil⟩⟩⟩⟩⟩⟩⟩⟩⟩⟩⟩⟩⟩
def lw_privs : List (MethodName × Nat) := lw_privs_1 ++ (lw_privs_2)
def lw_tbl : List Cond := k2_sels lw_privs ++ tables_1
theorem lw_privs_ok : ∀ q ∈ lw_privs, lw_okq q := by
  show ∀ q ∈ lw_privs_1 ++ (lw_privs_2), lw_okq q
  exact List.forall_mem_append.mpr ⟨lw_r1, lw_r2⟩
end
section
/-! ===== BEGIN words of one list among another's, by their places ===== -/
theorem goodIn_r {big : List Cond} (ws : List Cond) (ps : List Nat) (hp : ws = ps.filterMap (fun i => big[i]?)) (h : ws.all goodWord = true) : GoodIn big ws := by
  intro w hw
  have h1 := List.all_eq_true.mp h w hw
  rw [hp] at hw
  obtain ⟨i, -, hi⟩ := List.mem_filterMap.mp hw
  have hm : w ∈ big := by first | exact List.mem_of_getElem? hi | exact List.getElem?_mem hi
  exact ⟨hm, good_of_word h1⟩
theorem goodIn_app {big a b : List Cond} (ha : GoodIn big a) (hb : GoodIn big b) : GoodIn big (a ++ b) := fun w h => (List.mem_append.mp h).elim (ha w) (hb w)
theorem goodIn_ca {big a b : List Cond} {c : Cond} (ha : GoodIn big (c :: a)) (hb : GoodIn big b) : GoodIn big (c :: (a ++ b)) := fun w h => (List.mem_cons.mp h).elim (fun e => ha w (List.mem_cons.mpr (Or.inl e))) (fun h => (List.mem_append.mp h).elim (fun h => ha w (List.mem_cons.mpr (Or.inr h))) (hb w))
theorem goodIn_sub {big ws : List Cond} (hm : ∀ w ∈ ws, w ∈ big) (h : ws.all goodWord = true) : GoodIn big ws := fun w hw => ⟨hm w hw, good_of_word (List.all_eq_true.mp h w hw)⟩
/-! ===== END ===== -/

/-! ===== BEGIN exceptions that leave a method, and their catching by the caller (launches without stack traces) ===== -/
section VXA
/-! The laws vx_back, vx_callV, vx_callS, vx_callSW, vx_throw0, vx_throwS follow proofs of the library, with one case more: JvmDerived/Free/Laws.lean (Back.of_free), Shelf42/LK1.lean (callV, callS), Shelf/KitTraced.lean (throwNew0V, throwNewS). -/
/-- where a method has thrown q: the class by its name, the cell, what was written, the world -/
def vx_T (XC : String → State → State → Prop) (st : State) (q : Addr) (t : State) (mc ms : Nat) (free : Addr → Prop) : Prop :=
  ∃ (E : String) (ce : Cell) (L : List Loc), XC E st t ∧ t.heap[q]? = some ce ∧ ce.vm = .none ∧ st.vm.findClass E = some ce.cls ∧ st.WarmedH t.vm ∧ st.sameButNew ({ t with vm := st.vm } : State) L mc ms ∧ ∀ z ∈ L, free z.base
def vx_Q (Qc : Array Value → State → Outcome → State → Prop) (XC : String → State → State → Prop) (mc ms : Nat) (free : Addr → Prop) : Array Value → State → Outcome → State → Prop := fun a st o t =>
  (Qc a st o t ∧ ∃ L, FrameEnd st o t L mc ms ∧ ∀ q ∈ L, free q.base) ∨ ∃ q, o = .threw q ∧ vx_T XC st q t mc ms free
/-- a callee that returns or throws -/
def vx_Met (l : Launch) (y : MethodName) (ws : List Cond) (rm : Room) (Pc : Array Value → State → Prop) (Qc : Array Value → State → Outcome → State → Prop) (XC : String → State → State → Prop) (mc ms : Nat) (free : Addr → Prop) : Prop :=
  MetFree l y (headSpec ws rm) Pc (fun _ _ _ _ _ => True) (vx_Q Qc XC mc ms free)
def vx_Post (XC : String → State → State → Prop) (mc ms : Nat) (free : Addr → Prop) : Pt → Array Value → Addr → Pt → Prop := fun A a q B =>
  ∃ (g : JFrame) (mk : MethodId) (t : State) (L : List Loc) (E : String) (ce : Cell), B.U.heap = t.heap ∧ B.U.vm = t.vm ∧ XC E (A.U.calling g mk a) t ∧ t.heap[q]? = some ce ∧ ce.vm = .none ∧ A.U.vm.findClass E = some ce.cls ∧ B.locs = A.locs ++ L ∧ (∀ z ∈ L, free z.base) ∧ B.cells = A.cells + mc ∧ B.slots = A.slots + ms
def vx_Back (l : Launch) (R : Room) (p : Program) (e : Env) (below : List Frame) (s : State) (sargs : Array Value) (y : MethodName) (len W9 : Nat)
    (Pre : Pt → Array Value → Prop) (Post : Pt → Array Value → Option Value → Pt → Prop) (PostX : Pt → Array Value → Addr → Pt → Prop) : Prop :=
  ∀ (m : MethodId) (meth : Method) (c : Code) (A : Pt) (g : JFrame) (ig : Instr) (mk : MethodId) (a : Array Value),
    Stand p l e R s m sargs below meth c A.U A.locs A.cells A.slots → g.method = m → g.locals.size = c.maxLocals → decode c.code g.pc = .ok (ig, len) →
    2 * g.monitorRoom + (g.stack.map fun v => v.category).sum ≤ W9 → A.U.methodNamed? y = some mk → Pre A a →
    (∃ (v : Option Value) (B : Pt), Stand p l e R s m sargs below meth c B.U B.locs B.cells B.slots ∧ Post A a v B ∧
      Steps p.tables e below (doInvoke e (A.U.setTop g) [] mk a).1 (B.U.setTop { g with pc := g.pc + len, stack := v.toList ++ g.stack })) ∨
    (∃ (q : Addr) (B : Pt), Stand p l e R s m sargs below meth c B.U B.locs B.cells B.slots ∧ PostX A a q B ∧
      Steps p.tables e below (doInvoke e (A.U.setTop g) [] mk a).1 ((B.U.setTop g).pushFrame (.throwing q)))
section Payer
variable {l : Launch} {R : Room} {p : Program} {e : Env} {below : List Frame} {s : State} {sargs : Array Value} {y : MethodName} {len W9 : Nat}
theorem vx_back {ws : List Cond} {rm : Room} {Pc : Array Value → State → Prop} {Qc : Array Value → State → Outcome → State → Prop} {XC : String → State → State → Prop} {mc ms : Nat} {free : Addr → Prop} {bytes : ByteArray} {maxL : Nat} {ret : Option FieldType}
    (hM : vx_Met l y ws rm Pc Qc XC mc ms free) (hblind : FrameBlind Pc) (hrc : rm.cells = mc) (hrs : rm.slots = ms)
    (hframes : rm.frames + 1 ≤ R.frames) (hlocals : W9 + (maxL + 11) + rm.locals ≤ R.locals)
    (hws : ∀ w ∈ ws, ∀ a' U, s.WarmedH U.vm → w.before a' U = true) (hcode : Cond.code y bytes maxL ret ∈ ws) (hinit : ∀ a' U, s.WarmedH U.vm → (Cond.initialized y.cls).before a' U = true) :
    vx_Back l R p e below s sargs y len W9 (PreOf R mc ms Pc) (PostOf Qc mc ms free) (vx_Post XC mc ms free) := by
  intro m meth c A g ig mk a X hg hsize hdg hW hn hp
  have h1 : (headSpec ws rm).pre.before a A.U = true := atoms_intro fun w hw => hws w hw _ _ X.warmed
  have h2 : (Cond.code y bytes maxL ret).before a A.U = true := hws _ hcode _ _ X.warmed
  have h3 : (Cond.initialized y.cls).before a A.U = true := hinit _ _ X.warmed
  have h4 : A.cells + (headSpec ws rm).room.cells ≤ R.cells := by rw [show (headSpec ws rm).room.cells = mc from hrc]; exact hp.1
  have h5 : A.slots + (headSpec ws rm).room.slots ≤ R.slots := by rw [show (headSpec ws rm).room.slots = ms from hrs]; exact hp.2.1
  have hPc : Pc a (A.U.calling g mk a) := hblind _ _ _ _ hp.2.2
  obtain ⟨U, Ls, c0, s0⟩ := A
  dsimp only [Pt.U, Pt.locs, Pt.cells, Pt.slots] at h1 h2 h3 h4 h5 X hn hPc ⊢
  obtain ⟨methY, cY, hmY, hcY, -, hlY, -, -, -, -⟩ := Cond.code_spec hn h2
  obtain ⟨kY, hkY, -⟩ := className_of_methodNamed hn
  have hinitY : kY.init = .initialized := Cond.initialized_spec (findClass_of_methodNamed hn) hkY h3
  have h : At U g.method c below := by rw [hg]; exact X.here
  have hlocals9 : W9 + (maxL + 11) + (headSpec ws rm).room.locals ≤ R.locals := hlocals
  have happ : (headSpec ws rm).appliesLoose y e.platform (U.calling g mk a) = true :=
    Spec.appliesLoose_calling (g := g) h hdg hn hkY hinitY
      (X.room_calling (g := g) (R' := (headSpec ws rm).room) hsize hmY hcY hframes (by rw [hlY]; omega) h4 h5) h1
  obtain ⟨mid, hmid⟩ := h.above
  have hfr : (U.setTop g).frames = (.java g :: mid) ++ below := by rw [State.frames_setTop' g h.top, hmid]; rfl
  obtain ⟨o, s₂, hsteps, -, hend, hq⟩ := Steps.callFree hM p X.admits X.cas X.clock (acts := []) hfr happ hPc trivial
  have hq' : vx_Q Qc XC mc ms free a (U.calling g mk a) o s₂ := hq
  rw [State.frames_setTop' g h.top] at hend
  obtain ⟨g₀, hg0⟩ := Option.isSome_iff_exists.mp h.top
  obtain ⟨r, hr⟩ := State.topJava?_eq_some.mp hg0
  have hr' : (({ U with heap := s₂.heap, slotsUsed := s₂.slotsUsed } : State).setVm s₂.vm).frames = .java g₀ :: r := hr
  rcases hq' with ⟨hqc, L, hfe, hL⟩ | ⟨q, rfl, E, ce, L, hx, hce, hcv, hcl, hW₂, hsm, hL⟩
  · obtain ⟨⟨v, rfl⟩, hW₂, e2, q2, q3, q4, q5, q6⟩ := id hfe
    have e3 : s₂ = ({ (U.calling g mk a).setFrames s₂.frames with heap := s₂.heap, slotsUsed := s₂.slotsUsed } : State).setVm s₂.vm := by
      have : s₂ = ({ s₂ with vm := (U.calling g mk a).vm } : State).setVm s₂.vm := rfl
      rw [e2] at this
      exact this
    obtain ⟨c₂, i₂, len₂, hc₂, hd₂, hf₂⟩ := hend
    have hW' : U.WarmedH s₂.vm := hW₂
    have hcc : c₂ = c := by
      have h1 : s₂.code? g.method = U.code? g.method := by
        rw [State.code?_eq, State.code?_eq, hW'.alike.method?]
      exact Option.some.inj (hc₂.symm.trans (h1.trans h.code))
    subst hcc
    have hlen : len₂ = len := by rw [hdg] at hd₂; cases hd₂; rfl
    subst hlen
    have hs₂ : s₂ = (({ U with heap := s₂.heap, slotsUsed := s₂.slotsUsed } : State).setVm s₂.vm).setTop { g with pc := g.pc + len₂, stack := v.toList ++ g.stack } := by
      refine e3.trans ?_
      rw [hf₂, State.calling_eq h.top, State.setFrames_setFrames, State.setTop_of_frames _ hr', hr]
      rfl
    have hsame : U.sameButNew ({ U with heap := s₂.heap, slotsUsed := s₂.slotsUsed } : State) L mc ms := by
      refine ⟨?_, q2, q3, q4, q5, q6⟩
      obtain ⟨t, ht, -⟩ := State.frames_cons hr
      show ({ U with heap := s₂.heap, slotsUsed := s₂.slotsUsed } : State) = { U.setFrames U.frames with heap := s₂.heap, slotsUsed := s₂.slotsUsed }
      rw [State.setFrames_self ht]
    subst hg
    refine Or.inl ⟨v, ⟨(({ U with heap := s₂.heap, slotsUsed := s₂.slotsUsed } : State).setVm s₂.vm), Ls ++ L, c0 + mc, s0 + ms⟩,
      ⟨X.admits, X.cas, X.clock, X.frames, X.room, X.hears, X.method, X.code, (X.here.setHeapUsed s₂.heap s₂.slotsUsed).setVm hW'.alike, X.tail, State.WarmedH.trans X.warmed hW', X.limits, X.bytes, X.same.trans (hsame.setVm s.vm)⟩,
      ⟨g, mk, s₂, L, rfl, rfl, hqc, rfl, hL, rfl, rfl⟩, ?_⟩
    show Steps p.tables e below _ ((({ U with heap := s₂.heap, slotsUsed := s₂.slotsUsed } : State).setVm s₂.vm).setTop { g with pc := g.pc + len₂, stack := v.toList ++ g.stack })
    rw [← hs₂]
    exact hsteps
  · obtain ⟨e2, q2, q3, q4, q5, q6⟩ := id hsm
    have e3 : s₂ = ({ (U.calling g mk a).setFrames s₂.frames with heap := s₂.heap, slotsUsed := s₂.slotsUsed } : State).setVm s₂.vm := by
      have : s₂ = ({ s₂ with vm := (U.calling g mk a).vm } : State).setVm s₂.vm := rfl
      rw [e2] at this
      exact this
    have hf₂ : s₂.frames = .throwing q :: .java g :: U.frames.tail := hend
    have hW' : U.WarmedH s₂.vm := hW₂
    have hs₂ : s₂ = ((({ U with heap := s₂.heap, slotsUsed := s₂.slotsUsed } : State).setVm s₂.vm).setTop g).pushFrame (.throwing q) := by
      refine e3.trans ?_
      rw [hf₂, State.calling_eq h.top, State.setFrames_setFrames, State.pushFrame, State.frames_setTop _ hr', State.setTop_of_frames _ hr', State.setFrames_setFrames, hr]
      rfl
    have hsame : U.sameButNew ({ U with heap := s₂.heap, slotsUsed := s₂.slotsUsed } : State) L mc ms := by
      refine ⟨?_, q2, q3, q4, q5, q6⟩
      obtain ⟨t, ht, -⟩ := State.frames_cons hr
      show ({ U with heap := s₂.heap, slotsUsed := s₂.slotsUsed } : State) = { U.setFrames U.frames with heap := s₂.heap, slotsUsed := s₂.slotsUsed }
      rw [State.setFrames_self ht]
    subst hg
    refine Or.inr ⟨q, ⟨(({ U with heap := s₂.heap, slotsUsed := s₂.slotsUsed } : State).setVm s₂.vm), Ls ++ L, c0 + mc, s0 + ms⟩,
      ⟨X.admits, X.cas, X.clock, X.frames, X.room, X.hears, X.method, X.code, (X.here.setHeapUsed s₂.heap s₂.slotsUsed).setVm hW'.alike, X.tail, State.WarmedH.trans X.warmed hW', X.limits, X.bytes, X.same.trans (hsame.setVm s.vm)⟩,
      ⟨g, mk, s₂, L, E, ce, rfl, rfl, hx, hce, hcv, hcl, rfl, hL, rfl, rfl⟩, ?_⟩
    show Steps p.tables e below _ (((({ U with heap := s₂.heap, slotsUsed := s₂.slotsUsed } : State).setVm s₂.vm).setTop g).pushFrame (.throwing q))
    rw [← hs₂]
    exact hsteps
end Payer
section Calls
variable {p : Program} {l : Launch} {e : Env} {R : Room} {s : State} {m : MethodId} {args : Array Value} {below : List Frame} {meth : Method} {c : Code} {T : State} {locs : List Loc} {cells slots : Nat}
theorem vx_callV (X : Stand p l e R s m args below meth c T locs cells slots) (hexec : p.tables.exec = Jvm.exec) {own C : String} {index : Nat} {y : MethodName} {bytes : ByteArray} {maxL : Nat} {ret : Option FieldType}
    (hown : s.vm.findClass own = some m.cls) (hlink : (Cond.methodLink own index y).before args s = true) (hinst : (Cond.instanceMethod y).before args s = true) (hsel : (Cond.selects C y y).before args s = true)
    (hcode : (Cond.code y bytes maxL ret).before args s = true) (hy : y.cls ≠ "java/lang/invoke/MethodHandle" ∧ y.cls ≠ "java/lang/invoke/VarHandle")
    {W9 : Nat} {Pre : Pt → Array Value → Prop} {Post : Pt → Array Value → Option Value → Pt → Prop} {PostX : Pt → Array Value → Addr → Pt → Prop} (hK : vx_Back l R p e below s args y 3 W9 Pre Post PostX)
    {b : Addr} {cellB : Cell} (hcell : T.heap[b]? = some cellB) (hobj : cellB.vm.isStatics = false) (hcls : s.vm.findClass C = some cellB.cls)
    {g : JFrame} (hg : g.method = m) (hsize : g.locals.size = c.maxLocals) {argsL rest : List Value} (hlen : ∀ sig, parseMethodDescriptor y.desc = some sig → argsL.length = sig.parameters.length)
    (hstack : g.stack = argsL.reverse ++ .ref b :: rest) (hW : 2 * g.monitorRoom + (rest.map fun v => v.category).sum ≤ W9) (hdg : decode c.code g.pc = .ok (.invokevirtual index, 3))
    (hpre : ∀ vm₁, s.WarmedH vm₁ → Pre ⟨T.setVm vm₁, locs, cells, slots⟩ (Value.ref b :: argsL).toArray) :
    (∃ (v : Option Value) (vm₁ : Vm) (B : Pt), s.WarmedH vm₁ ∧ Stand p l e R s m args below meth c B.U B.locs B.cells B.slots ∧ Post ⟨T.setVm vm₁, locs, cells, slots⟩ (Value.ref b :: argsL).toArray v B ∧
      ∀ target, Steps p.tables e below (B.U.setTop { g with pc := g.pc + 3, stack := v.toList ++ rest }) target → Steps p.tables e below (T.setTop g) target) ∨
    (∃ (q : Addr) (vm₁ : Vm) (B : Pt), s.WarmedH vm₁ ∧ Stand p l e R s m args below meth c B.U B.locs B.cells B.slots ∧ PostX ⟨T.setVm vm₁, locs, cells, slots⟩ (Value.ref b :: argsL).toArray q B ∧
      Steps p.tables e below (T.setTop g) ((B.U.setTop { g with stack := rest }).pushFrame (.throwing q))) := by
  obtain ⟨mk, methM, hnamed, hmethM, hstM, habM⟩ := Cond.instanceMethod_spec hinst
  obtain ⟨methM', cM, hmethM', -, -, -, -, -, -, hsigM⟩ := Cond.code_spec hnamed hcode
  cases hmethM.symm.trans hmethM'
  obtain ⟨c2, r2, m2, q1, q2, q3, q4, kP, hkP, hkPi⟩ := Cond.selects_spec hsel
  cases hcls.symm.trans q1
  cases (State.methodFound?_of_named hnamed hy).symm.trans q2
  cases hnamed.symm.trans q3
  have hselP : selectMethod e.platform s.vm cellB.cls mk = .method mk := by rw [Launch.admits_selectMethod X.admits]; exact q4
  obtain ⟨vm₁, X₁, hstep₁⟩ := X.invokevirtual hexec hown hlink hnamed hmethM hstM hkP hkPi hy (a := b) (cell := cellB) hcell
    (fun z h => by rw [h] at hobj; cases hobj) hselP hmethM habM hkP hkPi (g := g) hg (argsL := argsL) (rest := rest) (hlen _ hsigM) hstack hdg
  rcases hK m meth c ⟨T.setVm vm₁, locs, cells, slots⟩ { g with stack := rest } (.invokevirtual index) mk (Value.ref b :: argsL).toArray X₁ hg hsize hdg hW (X₁.named hnamed) (hpre vm₁ X₁.warmed) with ⟨v, B, X', hpost, hsteps⟩ | ⟨q, B, X', hpost, hsteps⟩
  · exact Or.inl ⟨v, vm₁, B, X₁.warmed, X', hpost, fun target h => hstep₁ _ fun acts => by rw [doInvoke_state]; exact hsteps.trans h⟩
  · exact Or.inr ⟨q, vm₁, B, X₁.warmed, X', hpost, hstep₁ _ fun acts => by rw [doInvoke_state]; exact hsteps⟩
theorem vx_callS (X : Stand p l e R s m args below meth c T locs cells slots) (hexec : p.tables.exec = Jvm.exec) {own : String} {index : Nat} {y : MethodName} {bytes : ByteArray} {maxL : Nat} {ret : Option FieldType}
    (hown : s.vm.findClass own = some m.cls) (hlink : (Cond.methodLink own index y).before args s = true) (hstat : (Cond.static y).before args s = true) (hinit : (Cond.initialized y.cls).before args s = true)
    (hcode : (Cond.code y bytes maxL ret).before args s = true) (hy : y.cls ≠ "java/lang/invoke/MethodHandle" ∧ y.cls ≠ "java/lang/invoke/VarHandle")
    {W9 : Nat} {Pre : Pt → Array Value → Prop} {Post : Pt → Array Value → Option Value → Pt → Prop} {PostX : Pt → Array Value → Addr → Pt → Prop} (hK : vx_Back l R p e below s args y 3 W9 Pre Post PostX)
    {g : JFrame} (hg : g.method = m) (hsize : g.locals.size = c.maxLocals) {argsL rest : List Value} (hlen : ∀ sig, parseMethodDescriptor y.desc = some sig → argsL.length = sig.parameters.length)
    (hstack : g.stack = argsL.reverse ++ rest) (hW : 2 * g.monitorRoom + (rest.map fun v => v.category).sum ≤ W9) (hdg : decode c.code g.pc = .ok (.invokestatic index, 3))
    (hpre : ∀ vm₁, s.WarmedH vm₁ → Pre ⟨T.setVm vm₁, locs, cells, slots⟩ argsL.toArray) :
    (∃ (v : Option Value) (vm₁ : Vm) (B : Pt), s.WarmedH vm₁ ∧ Stand p l e R s m args below meth c B.U B.locs B.cells B.slots ∧ Post ⟨T.setVm vm₁, locs, cells, slots⟩ argsL.toArray v B ∧
      ∀ target, Steps p.tables e below (B.U.setTop { g with pc := g.pc + 3, stack := v.toList ++ rest }) target → Steps p.tables e below (T.setTop g) target) ∨
    (∃ (q : Addr) (vm₁ : Vm) (B : Pt), s.WarmedH vm₁ ∧ Stand p l e R s m args below meth c B.U B.locs B.cells B.slots ∧ PostX ⟨T.setVm vm₁, locs, cells, slots⟩ argsL.toArray q B ∧
      Steps p.tables e below (T.setTop g) ((B.U.setTop { g with stack := rest }).pushFrame (.throwing q))) := by
  obtain ⟨mk, hnamed⟩ := Cond.code_named hcode
  obtain ⟨methM, cM, hmethM, -, -, -, -, -, -, hsigM⟩ := Cond.code_spec hnamed hcode
  have hstatic : methM.isStatic = true := Cond.static_spec hnamed hmethM hstat
  obtain ⟨kP, hkP, -⟩ := className_of_methodNamed hnamed
  have hinitP : kP.init = .initialized := Cond.initialized_spec (findClass_of_methodNamed hnamed) hkP hinit
  obtain ⟨vm₁, X₁, hstep₁⟩ := X.invokestatic hexec hown hlink hnamed hmethM hstatic hkP hinitP hy (g := g) hg (argsL := argsL) (rest := rest) (hlen _ hsigM) hstack hdg
  rcases hK m meth c ⟨T.setVm vm₁, locs, cells, slots⟩ { g with stack := rest } (.invokestatic index) mk argsL.toArray X₁ hg hsize hdg hW (X₁.named hnamed) (hpre vm₁ X₁.warmed) with ⟨v, B, X', hpost, hsteps⟩ | ⟨q, B, X', hpost, hsteps⟩
  · exact Or.inl ⟨v, vm₁, B, X₁.warmed, X', hpost, fun target h => hstep₁ _ fun acts => by rw [doInvoke_state]; exact hsteps.trans h⟩
  · exact Or.inr ⟨q, vm₁, B, X₁.warmed, X', hpost, hstep₁ _ fun acts => by rw [doInvoke_state]; exact hsteps⟩
end Calls
theorem vx_cls {s : State} {T : State} {vm₁ : Vm} {E : String} {k : ClassId} (hW : s.WarmedH vm₁) (h : (T.setVm vm₁).vm.findClass E = some k) : s.vm.findClass E = some k := by
  have h1 : vm₁.findClass E = some k := h
  rw [hW.alike.findClass] at h1
  exact h1
/-- the method's frame g, with q thrown over it -/
def vx_W (p : Program) (l : Launch) (e : Env) (R : Room) (s : State) (m : MethodId) (args : Array Value) (below : List Frame) (meth : Method) (c : Code) (H : Heap) (locs : List Loc) (cells slots : Nat) (Q : State → Prop) (g : JFrame) (q : Addr) : Prop :=
  ∀ T : State, T.heap = H → Stand p l e R s m args below meth c T locs cells slots → ∃ t, Steps p.tables e below ((T.setTop g).pushFrame (.throwing q)) t ∧ Q t
def vx_Run (p : Program) (l : Launch) (e : Env) (R : Room) (s : State) (m : MethodId) (args : Array Value) (below : List Frame) (meth : Method) (c : Code) (H : Heap) (locs : List Loc) (cells slots mc ms : Nat) (g : JFrame) (rest : List Value) (Qa : State → Outcome → State → Prop) (XC : String → State → State → Prop) (free : Addr → Prop) : Prop :=
  ∀ T : State, T.heap = H → Stand p l e R s m args below meth c T locs cells slots →
    (∃ (v : Option Value) (st₀ t T' : State) (L : List Loc), st₀.heap = H ∧ Stand p l e R s m args below meth c T' (locs ++ L) (cells + mc) (slots + ms) ∧ (∀ q ∈ L, free q.base) ∧ T'.heap = t.heap ∧ T'.vm = t.vm ∧ Qa st₀ (.returned v) t ∧
      Goes p e below T g T' { g with pc := g.pc + 3, stack := v.toList ++ rest }) ∨
    (∃ (q : Addr) (st₀ t T' : State) (L : List Loc) (E : String) (ce : Cell), st₀.heap = H ∧ Stand p l e R s m args below meth c T' (locs ++ L) (cells + mc) (slots + ms) ∧ (∀ z ∈ L, free z.base) ∧ T'.heap = t.heap ∧ T'.vm = t.vm ∧ XC E st₀ t ∧ t.heap[q]? = some ce ∧ ce.vm = .none ∧ s.vm.findClass E = some ce.cls ∧
      Steps p.tables e below (T.setTop g) ((T'.setTop { g with stack := rest }).pushFrame (.throwing q)))
def vx_X {S : Type} (px : S → Prop) (B : String → S → State → Prop) (A : Nat → Prop) : String → State → State → Prop := fun E st t => ∃ u : S, px u ∧ B E u t ∧ va_F A st t
section Runs
variable {p : Program} {l : Launch} {e : Env} {R : Room} {s : State} {m : MethodId} {args : Array Value} {below : List Frame} {meth : Method} {c : Code} {H : Heap} {locs : List Loc} {cells slots : Nat}
variable {y : MethodName} {bytes cc : ByteArray} {maxL nL mc ms n index : Nat} {ret : Option FieldType} {ws : List Cond} {rm : Room} {Pc : Array Value → State → Prop} {Qc : Array Value → State → Outcome → State → Prop} {XC : String → State → State → Prop} {free : Addr → Prop} {Ts : List Cond} {own C : String} {b : Addr} {As rest : List Value} {g : JFrame}
theorem vx_callBack (cb : CallB R s args own index y bytes maxL ret ws rm mc ms n) (hM : vx_Met l y ws rm Pc Qc XC mc ms free) (hbl : FrameBlind Pc) : vx_Back l R p e below s args y 3 8 (PreOf R mc ms Pc) (PostOf Qc mc ms free) (vx_Post XC mc ms free) := by
  obtain ⟨hrc, hrs, hfr, hlo, hws, hcw, -, hini, -⟩ := cb
  exact vx_back (bytes := bytes) (maxL := maxL) (ret := ret) hM hbl hrc hrs hfr hlo hws hcw (fun a' U hW => word_at hW (Or.inl (by first | rfl | simp [Cond.onTables, Cond.keeps, Cond.steady])) hini)
theorem vx_runV (S : CallFix p m c cc nL s args Ts own) (hM : vx_Met l y ws rm Pc Qc XC mc ms free) (cw : CallW R s args own C index y bytes maxL ret ws rm mc ms n) (hp : PreV s H C b Pc As)
    (hg : g.method = m) (hn : As.length = n) (hsize : g.locals.size = nL) (hstack : g.stack = As.reverse ++ .ref b :: rest) (hW : 2 * g.monitorRoom + (rest.map fun v => v.category).sum ≤ 8) (hdg : decode cc g.pc = .ok (.invokevirtual index, 3)) (hf : cells + mc ≤ R.cells ∧ slots + ms ≤ R.slots) :
    vx_Run p l e R s m args below meth c H locs cells slots mc ms g rest (Qc (Value.ref b :: As).toArray) XC free := by
  have hK : vx_Back l R p e below s args y 3 8 (PreOf R mc ms Pc) (PostOf Qc mc ms free) (vx_Post XC mc ms free) := vx_callBack cw.1 hM hp.1
  obtain ⟨⟨-, -, -, -, -, -, hcode, -, hy, hlen, hl⟩, hin, hse⟩ := cw
  obtain ⟨hx, hb, hml, ho, -⟩ := S
  obtain ⟨-, ⟨cellB, hcB, hoB, hclB⟩, hPc⟩ := hp
  intro T hT X
  rcases vx_callV X hx (C := C) (bytes := bytes) (maxL := maxL) (ret := ret) ho hl hin hse hcode hy hK (by rw [hT]; exact hcB) hoB hclB hg (hsize.trans hml.symm) (argsL := As) (rest := rest) (fun sig h => hn.trans (hlen sig h)) hstack hW (by rw [hb]; exact hdg)
    (fun vm₁ hW₁ => ⟨hf.1, hf.2, hPc (T.setVm vm₁) hT hW₁⟩) with ⟨v, vm₁, ⟨U', l2, c2, s2⟩, hW₁, X', ⟨g', mk, t, L, e1, e2, hq, h1, hL, h2, h3⟩, st⟩ | ⟨q, vm₁, ⟨U', l2, c2, s2⟩, hW₁, X', ⟨g', mk, t, L, E, ce, e1, e2, hq, hce, hcv, hcl, h1, hL, h2, h3⟩, st⟩
  · dsimp only [Pt.U, Pt.locs, Pt.cells, Pt.slots] at X' e1 e2 h1 h2 h3 st
    subst h1; subst h2; subst h3
    exact Or.inl ⟨v, (T.setVm vm₁).calling g' mk (Value.ref b :: As).toArray, t, U', L, hT, X', hL, e1, e2, hq, st⟩
  · dsimp only [Pt.U, Pt.locs, Pt.cells, Pt.slots] at X' e1 e2 h1 h2 h3 st hcl
    subst h1; subst h2; subst h3
    exact Or.inr ⟨q, (T.setVm vm₁).calling g' mk (Value.ref b :: As).toArray, t, U', L, E, ce, hT, X', hL, e1, e2, hq, hce, hcv, vx_cls hW₁ hcl, st⟩
theorem vx_runS (S : CallFix p m c cc nL s args Ts own) (hM : vx_Met l y ws rm Pc Qc XC mc ms free) (cw : CallB R s args own index y bytes maxL ret ws rm mc ms n ∧ (Cond.static y).before args s = true) (hp : PreS s H Pc As)
    (hg : g.method = m) (hn : As.length = n) (hsize : g.locals.size = nL) (hstack : g.stack = As.reverse ++ rest) (hW : 2 * g.monitorRoom + (rest.map fun v => v.category).sum ≤ 8) (hdg : decode cc g.pc = .ok (.invokestatic index, 3)) (hf : cells + mc ≤ R.cells ∧ slots + ms ≤ R.slots) :
    vx_Run p l e R s m args below meth c H locs cells slots mc ms g rest (Qc As.toArray) XC free := by
  have hK : vx_Back l R p e below s args y 3 8 (PreOf R mc ms Pc) (PostOf Qc mc ms free) (vx_Post XC mc ms free) := vx_callBack cw.1 hM hp.1
  obtain ⟨⟨-, -, -, -, -, -, hcode, hini, hy, hlen, hl⟩, hstt⟩ := cw
  obtain ⟨hx, hb, hml, ho, -⟩ := S
  intro T hT X
  rcases vx_callS X hx (bytes := bytes) (maxL := maxL) (ret := ret) ho hl hstt hini hcode hy hK hg (hsize.trans hml.symm) (argsL := As) (rest := rest) (fun sig h => hn.trans (hlen sig h)) hstack hW (by rw [hb]; exact hdg)
    (fun vm₁ hW₁ => ⟨hf.1, hf.2, hp.2 (T.setVm vm₁) hT hW₁⟩) with ⟨v, vm₁, ⟨U', l2, c2, s2⟩, hW₁, X', ⟨g', mk, t, L, e1, e2, hq, h1, hL, h2, h3⟩, st⟩ | ⟨q, vm₁, ⟨U', l2, c2, s2⟩, hW₁, X', ⟨g', mk, t, L, E, ce, e1, e2, hq, hce, hcv, hcl, h1, hL, h2, h3⟩, st⟩
  · dsimp only [Pt.U, Pt.locs, Pt.cells, Pt.slots] at X' e1 e2 h1 h2 h3 st
    subst h1; subst h2; subst h3
    exact Or.inl ⟨v, (T.setVm vm₁).calling g' mk As.toArray, t, U', L, hT, X', hL, e1, e2, hq, st⟩
  · dsimp only [Pt.U, Pt.locs, Pt.cells, Pt.slots] at X' e1 e2 h1 h2 h3 st hcl
    subst h1; subst h2; subst h3
    exact Or.inr ⟨q, (T.setVm vm₁).calling g' mk As.toArray, t, U', L, E, ce, hT, X', hL, e1, e2, hq, hce, hcv, vx_cls hW₁ hcl, st⟩
end Runs
section Rows
variable {p : Program} {l : Launch} {e : Env} {R : Room} {s : State} {m : MethodId} {args : Array Value} {below : List Frame} {meth : Method} {c : Code} {H : Heap} {locs : List Loc} {cells slots : Nat} {Q : State → Prop}
variable {mc ms : Nat} {free : Addr → Prop} {A0 A1 : Nat → Prop} {H0 : Heap} {a : Array Value} {pc : Nat} {ls : Array Slot} {st0 rest : List Value}
theorem vx_keep {st₀ t T' : State} {L : List Loc} (h0 : st₀.heap = H) (e1 : T'.heap = t.heap) (hS : va_S A0 H0 H locs) (hA : ∀ q, q < H.size → A1 q → A0 q) (hf : ∀ q, free q → A0 q) (hL : ∀ q ∈ L, free q.base) (hF : va_F A1 st₀ t) :
    H.size ≤ T'.heap.size ∧ (∀ q : Nat, q < H.size → ¬ A1 q → T'.heap[q]? = H[q]?) ∧ va_S A0 H0 T'.heap (locs ++ L) := by
  obtain ⟨hz, hk⟩ := hF
  rw [h0] at hz hk
  exact ⟨by rw [e1]; exact hz, fun q h1 h2 => by rw [e1]; exact hk q h1 h2,
    ⟨Nat.le_trans hS.1 (by rw [e1]; exact hz), fun q h1 h2 => by rw [e1, hk q (Nat.lt_of_lt_of_le h1 hS.1) (fun z => h2 (hA q (Nat.lt_of_lt_of_le h1 hS.1) z))]; exact hS.2.1 q h1 h2, fun q hq => by
      rcases List.mem_append.mp hq with h | h
      · exact hS.2.2 q h
      · exact hf _ (hL q h)⟩⟩
theorem vx_calli {S SX : Type} {post : Int32 → S → Prop} {px : SX → Prop} {B : S → State → Prop} {BX : String → SX → State → Prop} {AX : Nat → Prop} (hr : vx_Run p l e R s m args below meth c H locs cells slots mc ms (F0 m pc ls st0) rest (va_Qi post B A1 a) (vx_X px BX AX) free) (hS : va_S A0 H0 H locs) (hA : ∀ q, q < H.size → A1 q → A0 q) (hf : ∀ q, free q → A0 q) (hAX : ∀ q, q < H.size → AX q → A0 q)
    (kx : ∀ (E : String) (ce : Cell) (q9 : Addr) (u : SX) (t : State) (H1 : Heap) (locs1 : List Loc), t.heap = H1 → s.vm.Alike t.vm → px u → BX E u t → H.size ≤ H1.size → (∀ q : Nat, q < H.size → ¬ AX q → H1[q]? = H[q]?) → va_S A0 H0 H1 locs1 → H1[q9]? = some ce → ce.vm = .none → s.vm.findClass E = some ce.cls → vx_W p l e R s m args below meth c H1 locs1 (cells + mc) (slots + ms) Q (F0 m pc ls rest) q9)
    (kk : ∀ (r : Int32) (u : S) (t : State) (H1 : Heap) (locs1 : List Loc), t.heap = H1 → s.vm.Alike t.vm → post r u → B u t → H.size ≤ H1.size → (∀ q : Nat, q < H.size → ¬ A1 q → H1[q]? = H[q]?) → va_S A0 H0 H1 locs1 → W p l e R s m args below meth c H1 locs1 (cells + mc) (slots + ms) Q (F0 m (pc + 3) ls (.int r :: rest))) : W p l e R s m args below meth c H locs cells slots Q (F0 m pc ls st0) := by
  intro T hT X
  rcases hr T hT X with ⟨v, st₀, t, T', L, h0, X', hL, e1, e2, ⟨⟨r, u, hv, hp, hb⟩, hF⟩, st⟩ | ⟨q, st₀, t, T', L, E, ce, h0, X', hL, e1, e2, ⟨u, hp, hb, hF⟩, hce, hcv, hcl, st⟩
  · cases hv
    obtain ⟨k1, k2, k3⟩ := vx_keep h0 e1 hS hA hf hL hF
    obtain ⟨t2, a1, b1⟩ := kk r u t T'.heap (locs ++ L) e1.symm (by rw [← e2]; exact X'.warmed.alike) hp hb k1 k2 k3 T' rfl X'
    exact ⟨t2, st t2 a1, b1⟩
  · obtain ⟨k1, k2, k3⟩ := vx_keep h0 e1 hS hAX hf hL hF
    obtain ⟨t2, a1, b1⟩ := kx E ce q u t T'.heap (locs ++ L) e1.symm (by rw [← e2]; exact X'.warmed.alike) hp hb k1 k2 k3 (by rw [e1]; exact hce) hcv hcl T' rfl X'
    exact ⟨t2, st.trans a1, b1⟩
theorem vx_calll {S SX : Type} {post : Int64 → S → Prop} {px : SX → Prop} {B : S → State → Prop} {BX : String → SX → State → Prop} {AX : Nat → Prop} (hr : vx_Run p l e R s m args below meth c H locs cells slots mc ms (F0 m pc ls st0) rest (va_Ql post B A1 a) (vx_X px BX AX) free) (hS : va_S A0 H0 H locs) (hA : ∀ q, q < H.size → A1 q → A0 q) (hf : ∀ q, free q → A0 q) (hAX : ∀ q, q < H.size → AX q → A0 q)
    (kx : ∀ (E : String) (ce : Cell) (q9 : Addr) (u : SX) (t : State) (H1 : Heap) (locs1 : List Loc), t.heap = H1 → s.vm.Alike t.vm → px u → BX E u t → H.size ≤ H1.size → (∀ q : Nat, q < H.size → ¬ AX q → H1[q]? = H[q]?) → va_S A0 H0 H1 locs1 → H1[q9]? = some ce → ce.vm = .none → s.vm.findClass E = some ce.cls → vx_W p l e R s m args below meth c H1 locs1 (cells + mc) (slots + ms) Q (F0 m pc ls rest) q9)
    (kk : ∀ (r : Int64) (u : S) (t : State) (H1 : Heap) (locs1 : List Loc), t.heap = H1 → s.vm.Alike t.vm → post r u → B u t → H.size ≤ H1.size → (∀ q : Nat, q < H.size → ¬ A1 q → H1[q]? = H[q]?) → va_S A0 H0 H1 locs1 → W p l e R s m args below meth c H1 locs1 (cells + mc) (slots + ms) Q (F0 m (pc + 3) ls (.long r :: rest))) : W p l e R s m args below meth c H locs cells slots Q (F0 m pc ls st0) := by
  intro T hT X
  rcases hr T hT X with ⟨v, st₀, t, T', L, h0, X', hL, e1, e2, ⟨⟨r, u, hv, hp, hb⟩, hF⟩, st⟩ | ⟨q, st₀, t, T', L, E, ce, h0, X', hL, e1, e2, ⟨u, hp, hb, hF⟩, hce, hcv, hcl, st⟩
  · cases hv
    obtain ⟨k1, k2, k3⟩ := vx_keep h0 e1 hS hA hf hL hF
    obtain ⟨t2, a1, b1⟩ := kk r u t T'.heap (locs ++ L) e1.symm (by rw [← e2]; exact X'.warmed.alike) hp hb k1 k2 k3 T' rfl X'
    exact ⟨t2, st t2 a1, b1⟩
  · obtain ⟨k1, k2, k3⟩ := vx_keep h0 e1 hS hAX hf hL hF
    obtain ⟨t2, a1, b1⟩ := kx E ce q u t T'.heap (locs ++ L) e1.symm (by rw [← e2]; exact X'.warmed.alike) hp hb k1 k2 k3 (by rw [e1]; exact hce) hcv hcl T' rfl X'
    exact ⟨t2, st.trans a1, b1⟩
theorem vx_callf {S SX : Type} {post : UInt32 → S → Prop} {px : SX → Prop} {B : S → State → Prop} {BX : String → SX → State → Prop} {AX : Nat → Prop} (hr : vx_Run p l e R s m args below meth c H locs cells slots mc ms (F0 m pc ls st0) rest (va_Qf post B A1 a) (vx_X px BX AX) free) (hS : va_S A0 H0 H locs) (hA : ∀ q, q < H.size → A1 q → A0 q) (hf : ∀ q, free q → A0 q) (hAX : ∀ q, q < H.size → AX q → A0 q)
    (kx : ∀ (E : String) (ce : Cell) (q9 : Addr) (u : SX) (t : State) (H1 : Heap) (locs1 : List Loc), t.heap = H1 → s.vm.Alike t.vm → px u → BX E u t → H.size ≤ H1.size → (∀ q : Nat, q < H.size → ¬ AX q → H1[q]? = H[q]?) → va_S A0 H0 H1 locs1 → H1[q9]? = some ce → ce.vm = .none → s.vm.findClass E = some ce.cls → vx_W p l e R s m args below meth c H1 locs1 (cells + mc) (slots + ms) Q (F0 m pc ls rest) q9)
    (kk : ∀ (r : UInt32) (u : S) (t : State) (H1 : Heap) (locs1 : List Loc), t.heap = H1 → s.vm.Alike t.vm → post r u → B u t → H.size ≤ H1.size → (∀ q : Nat, q < H.size → ¬ A1 q → H1[q]? = H[q]?) → va_S A0 H0 H1 locs1 → W p l e R s m args below meth c H1 locs1 (cells + mc) (slots + ms) Q (F0 m (pc + 3) ls (.float r :: rest))) : W p l e R s m args below meth c H locs cells slots Q (F0 m pc ls st0) := by
  intro T hT X
  rcases hr T hT X with ⟨v, st₀, t, T', L, h0, X', hL, e1, e2, ⟨⟨r, u, hv, hp, hb⟩, hF⟩, st⟩ | ⟨q, st₀, t, T', L, E, ce, h0, X', hL, e1, e2, ⟨u, hp, hb, hF⟩, hce, hcv, hcl, st⟩
  · cases hv
    obtain ⟨k1, k2, k3⟩ := vx_keep h0 e1 hS hA hf hL hF
    obtain ⟨t2, a1, b1⟩ := kk r u t T'.heap (locs ++ L) e1.symm (by rw [← e2]; exact X'.warmed.alike) hp hb k1 k2 k3 T' rfl X'
    exact ⟨t2, st t2 a1, b1⟩
  · obtain ⟨k1, k2, k3⟩ := vx_keep h0 e1 hS hAX hf hL hF
    obtain ⟨t2, a1, b1⟩ := kx E ce q u t T'.heap (locs ++ L) e1.symm (by rw [← e2]; exact X'.warmed.alike) hp hb k1 k2 k3 (by rw [e1]; exact hce) hcv hcl T' rfl X'
    exact ⟨t2, st.trans a1, b1⟩
theorem vx_calld {S SX : Type} {post : UInt64 → S → Prop} {px : SX → Prop} {B : S → State → Prop} {BX : String → SX → State → Prop} {AX : Nat → Prop} (hr : vx_Run p l e R s m args below meth c H locs cells slots mc ms (F0 m pc ls st0) rest (va_Qd post B A1 a) (vx_X px BX AX) free) (hS : va_S A0 H0 H locs) (hA : ∀ q, q < H.size → A1 q → A0 q) (hf : ∀ q, free q → A0 q) (hAX : ∀ q, q < H.size → AX q → A0 q)
    (kx : ∀ (E : String) (ce : Cell) (q9 : Addr) (u : SX) (t : State) (H1 : Heap) (locs1 : List Loc), t.heap = H1 → s.vm.Alike t.vm → px u → BX E u t → H.size ≤ H1.size → (∀ q : Nat, q < H.size → ¬ AX q → H1[q]? = H[q]?) → va_S A0 H0 H1 locs1 → H1[q9]? = some ce → ce.vm = .none → s.vm.findClass E = some ce.cls → vx_W p l e R s m args below meth c H1 locs1 (cells + mc) (slots + ms) Q (F0 m pc ls rest) q9)
    (kk : ∀ (r : UInt64) (u : S) (t : State) (H1 : Heap) (locs1 : List Loc), t.heap = H1 → s.vm.Alike t.vm → post r u → B u t → H.size ≤ H1.size → (∀ q : Nat, q < H.size → ¬ A1 q → H1[q]? = H[q]?) → va_S A0 H0 H1 locs1 → W p l e R s m args below meth c H1 locs1 (cells + mc) (slots + ms) Q (F0 m (pc + 3) ls (.double r :: rest))) : W p l e R s m args below meth c H locs cells slots Q (F0 m pc ls st0) := by
  intro T hT X
  rcases hr T hT X with ⟨v, st₀, t, T', L, h0, X', hL, e1, e2, ⟨⟨r, u, hv, hp, hb⟩, hF⟩, st⟩ | ⟨q, st₀, t, T', L, E, ce, h0, X', hL, e1, e2, ⟨u, hp, hb, hF⟩, hce, hcv, hcl, st⟩
  · cases hv
    obtain ⟨k1, k2, k3⟩ := vx_keep h0 e1 hS hA hf hL hF
    obtain ⟨t2, a1, b1⟩ := kk r u t T'.heap (locs ++ L) e1.symm (by rw [← e2]; exact X'.warmed.alike) hp hb k1 k2 k3 T' rfl X'
    exact ⟨t2, st t2 a1, b1⟩
  · obtain ⟨k1, k2, k3⟩ := vx_keep h0 e1 hS hAX hf hL hF
    obtain ⟨t2, a1, b1⟩ := kx E ce q u t T'.heap (locs ++ L) e1.symm (by rw [← e2]; exact X'.warmed.alike) hp hb k1 k2 k3 (by rw [e1]; exact hce) hcv hcl T' rfl X'
    exact ⟨t2, st.trans a1, b1⟩
theorem vx_callv {S SX : Type} {post : S → Prop} {px : SX → Prop} {B : S → State → Prop} {BX : String → SX → State → Prop} {AX : Nat → Prop} (hr : vx_Run p l e R s m args below meth c H locs cells slots mc ms (F0 m pc ls st0) rest (va_Qv post B A1 a) (vx_X px BX AX) free) (hS : va_S A0 H0 H locs) (hA : ∀ q, q < H.size → A1 q → A0 q) (hf : ∀ q, free q → A0 q) (hAX : ∀ q, q < H.size → AX q → A0 q)
    (kx : ∀ (E : String) (ce : Cell) (q9 : Addr) (u : SX) (t : State) (H1 : Heap) (locs1 : List Loc), t.heap = H1 → s.vm.Alike t.vm → px u → BX E u t → H.size ≤ H1.size → (∀ q : Nat, q < H.size → ¬ AX q → H1[q]? = H[q]?) → va_S A0 H0 H1 locs1 → H1[q9]? = some ce → ce.vm = .none → s.vm.findClass E = some ce.cls → vx_W p l e R s m args below meth c H1 locs1 (cells + mc) (slots + ms) Q (F0 m pc ls rest) q9)
    (kk : ∀ (u : S) (t : State) (H1 : Heap) (locs1 : List Loc), t.heap = H1 → s.vm.Alike t.vm → post u → B u t → H.size ≤ H1.size → (∀ q : Nat, q < H.size → ¬ A1 q → H1[q]? = H[q]?) → va_S A0 H0 H1 locs1 → W p l e R s m args below meth c H1 locs1 (cells + mc) (slots + ms) Q (F0 m (pc + 3) ls (rest))) : W p l e R s m args below meth c H locs cells slots Q (F0 m pc ls st0) := by
  intro T hT X
  rcases hr T hT X with ⟨v, st₀, t, T', L, h0, X', hL, e1, e2, ⟨⟨u, hv, hp, hb⟩, hF⟩, st⟩ | ⟨q, st₀, t, T', L, E, ce, h0, X', hL, e1, e2, ⟨u, hp, hb, hF⟩, hce, hcv, hcl, st⟩
  · cases hv
    obtain ⟨k1, k2, k3⟩ := vx_keep h0 e1 hS hA hf hL hF
    obtain ⟨t2, a1, b1⟩ := kk u t T'.heap (locs ++ L) e1.symm (by rw [← e2]; exact X'.warmed.alike) hp hb k1 k2 k3 T' rfl X'
    exact ⟨t2, st t2 a1, b1⟩
  · obtain ⟨k1, k2, k3⟩ := vx_keep h0 e1 hS hAX hf hL hF
    obtain ⟨t2, a1, b1⟩ := kx E ce q u t T'.heap (locs ++ L) e1.symm (by rw [← e2]; exact X'.warmed.alike) hp hb k1 k2 k3 (by rw [e1]; exact hce) hcv hcl T' rfl X'
    exact ⟨t2, st.trans a1, b1⟩
/-- caught by the row x of this method's table; the rows ahead don't take it -/
theorem vx_catch {own name : String} {E : String} {ce : Cell} {q : Addr} (hown : s.vm.findClass own = some m.cls) (pre : List ExceptionTableEntry) (x : ExceptionTableEntry) (suf : List ExceptionTableEntry) (hsplit : c.exceptionTable.toList = pre ++ x :: suf)
    (hpass : ∀ z ∈ pre, covers z pc = false ∨ (z.catchType ≠ 0 ∧ ∃ nm : String, (Cond.classLink own z.catchType nm).before args s = true ∧ va_Nc E nm s)) (hx : covers x pc = true) (h0 : x.catchType ≠ 0)
    (hlink : (Cond.classLink own x.catchType name).before args s = true) (hcast : (Cond.castable E name).before args s = true) (hcell : H[q]? = some ce) (hv : ce.vm = .none) (hcl : s.vm.findClass E = some ce.cls)
    (kk : W p l e R s m args below meth c H locs cells slots Q (F0 m x.handlerPc ls [.ref q])) : vx_W p l e R s m args below meth c H locs cells slots Q (F0 m pc ls rest) q := by
  intro T hT X
  have hpl : e.platform.magicAccessors = ({} : Platform).magicAccessors := by rw [X.admits.platform]
  obtain ⟨c3, c4, hc3, hc4, hasg⟩ := Cond.castable_spec hcast
  cases Option.some.inj (hc3.symm.trans hcl)
  obtain ⟨c5, hc5, hcl5⟩ := Cond.classLink_spec hown hlink e.platform hpl
  cases Option.some.inj (hc4.symm.trans hc5)
  obtain ⟨vm', X', st⟩ := X.thenCaughtThrough q (g := F0 m pc ls rest) rfl (Steps.refl _) (by rw [hT]; exact hcell) (by rw [hv]; rfl) (by obtain ⟨k9, h9, -⟩ := Vm.findClass_spec hcl; exact ⟨k9, h9⟩) pre x suf hsplit
    (fun z hz => by
      rcases hpass z hz with h | ⟨hz0, nm, hl1, hn1⟩
      · exact Or.inl h
      · obtain ⟨c6, hc6, hcl6⟩ := Cond.classLink_spec hown hl1 e.platform hpl
        obtain ⟨a8, b8, h1, h2, h3⟩ := hn1
        cases Option.some.inj (h1.symm.trans hcl)
        cases Option.some.inj (h2.symm.trans hc6)
        exact Or.inr ⟨hz0, _, hcl6, h3⟩) hx (Or.inr ⟨h0, c4, hcl5, hasg⟩)
  obtain ⟨t, a1, b1⟩ := kk (T.setVm vm') hT X'
  exact ⟨t, st.trans a1, b1⟩
end Rows
section Ends
variable {p : Program} {l : Launch} {e : Env} {R : Room} {s : State} {m : MethodId} {args : Array Value} {below : List Frame} {meth : Method} {c : Code} {H : Heap} {locs : List Loc} {cells slots : Nat} {Q : State → Prop}
variable {mc ms : Nat} {free : Addr → Prop} {A0 A1 : Nat → Prop} {H0 : Heap} {a : Array Value} {ls : Array Slot} {st0 rest : List Value}
variable {Qc : Array Value → State → Outcome → State → Prop} {XC : String → State → State → Prop}
/-- what a body that may throw owes at its end -/
def vx_MQ (below : List Frame) (Qc : Array Value → State → Outcome → State → Prop) (XC : String → State → State → Prop) (a : Array Value) (s : State) (mc ms : Nat) (free : Addr → Prop) : State → Prop := fun t =>
  ∃ o, t.status = .running ∧ Ended t below o ∧ vx_Q Qc XC mc ms free a s o t
theorem vx_ret {g : JFrame} {mc ms : Nat} (k : W p l e R s m args below meth c H locs cells slots (MQ below Qc args s mc ms free) g) : W p l e R s m args below meth c H locs cells slots (vx_MQ below Qc XC args s mc ms free) g := by
  intro T hT X
  obtain ⟨t, a1, o, b1, b2, b3, b4⟩ := k T hT X
  exact ⟨t, a1, o, b1, b2, Or.inl ⟨b3, b4⟩⟩
/-- not caught here: it goes on to the caller -/
theorem vx_widen {g : JFrame} {q : Addr} {k n : Nat} (h1 : cells ≤ k) (h2 : slots ≤ n) (kk : vx_W p l e R s m args below meth c H locs k n Q g q) : vx_W p l e R s m args below meth c H locs cells slots Q g q := fun T hT X => kk T hT (stand_widen X h1 h2)
theorem vx_out {pc : Nat} {E : String} {ce : Cell} {q : Addr} {mc ms : Nat} (hout : ∀ x ∈ c.exceptionTable.toList, covers x pc = false) (hlocks : meth.locks = false) (hcell : H[q]? = some ce) (hv : ce.vm = .none) (hcl : s.vm.findClass E = some ce.cls)
    (hx : ∀ t : State, t.heap = H → s.vm.Alike t.vm → XC E s t) (hf : ∀ z ∈ locs, free z.base) (hc : cells ≤ mc) (hs : slots ≤ ms) :
    vx_W p l e R s m args below meth c H locs cells slots (vx_MQ below Qc XC args s mc ms free) (F0 m pc ls rest) q := by
  intro T hT X
  obtain ⟨st1, hrun, hend, hW, hsm⟩ := X.leaveThrown q (g := F0 m pc ls rest) rfl rfl rfl hout hlocks
  have hcell9 : (T.setFrames (.throwing q :: below)).heap[q]? = some ce := by
    show T.heap[q]? = some ce
    rw [hT]; exact hcell
  exact ⟨_, st1, .threw q, hrun, hend, Or.inr ⟨q, rfl, E, ce, locs, hx _ hT hW.alike, hcell9, hv, hcl, hW, hsm.mono hc hs, hf⟩⟩
theorem vx_frame {U : State} {k n : Nat} (h : s.sameButNew ({ U with vm := s.vm } : State) locs k n) : s.heap.size ≤ U.heap.size ∧ ∀ q : Nat, q < s.heap.size → (∀ z ∈ locs, z.base ≠ q) → U.heap[q]? = s.heap[q]? := by
  obtain ⟨-, h2, -, -, -, h6⟩ := h
  refine ⟨h2, fun q hq hz => ?_⟩
  obtain ⟨c9, e1, e2, e3, e4⟩ := h6 q _ (Array.getElem?_eq_getElem hq)
  have hs : c9.slots = (s.heap[q]).slots := Array.ext_getElem? fun i => e4 i fun hm => hz _ hm rfl
  have h9 : c9 = s.heap[q] := by
    rw [hs] at e2
    exact e2
  have e5 : U.heap[q]? = some c9 := e1
  rw [e5, h9, Array.getElem?_eq_getElem hq]
/-- the words of a throw but the four that speak of the heap -/
def vx_no (w : Cond) : Bool := decide (w ≠ .isRef (.static Bundle.tN "UNASSIGNED_STACK" Bundle.steD)) && decide (w ≠ .isRef (.static Bundle.tN "SUPPRESSED_SENTINEL" Bundle.listD)) && decide (w ≠ .laysStatic Bundle.tN "UNASSIGNED_STACK" Bundle.steD) && decide (w ≠ .laysStatic Bundle.tN "SUPPRESSED_SENTINEL" Bundle.listD)
def vx_at0 (own : String) (ic : Nat) (X : String) (names : List String) : List Cond := (Bundle.ownAtoms0 own ic X names).filter vx_no
def vx_atS (own : String) (ic : Nat) (X : String) (names : List String) : List Cond := (Bundle.ownAtoms own ic X names).filter vx_no
/-- a word that the tables alone decide, or a good one -/
def vx_ot (w : Cond) : Bool := w.onTables || goodWord w
theorem vx_ot_at {args a' : Array Value} {s U : State} {w : Cond} (hW : s.WarmedH U.vm) (hvm : s.vm = U.vm) (hg : vx_ot w = true) (h : w.before args s = true) : w.before a' U = true := by
  simp only [vx_ot, Bool.or_eq_true] at hg
  rcases hg with hg | hg
  · exact va_tabs hg hvm h
  · exact word_at hW (good_of_word hg) h
/-- a list's words: the good ones out of the method's own list, the others by premises of their own -/
theorem vx_hat {args : Array Value} {s : State} {L B : List Cond} (h1 : ∀ w ∈ L.filter goodWord, w.before args s = true) (h2 : ∀ w ∈ L.filter (fun w => !goodWord w), w ∈ B) (h3 : ∀ w ∈ B, w.before args s = true) : ∀ w ∈ L, w.before args s = true := by
  intro w hw
  by_cases g : goodWord w = true
  · exact h1 w (List.mem_filter.mpr ⟨hw, g⟩)
  · refine h3 w (h2 w (List.mem_filter.mpr ⟨hw, ?_⟩))
    show (!goodWord w) = true
    cases hgw : goodWord w
    · rfl
    · exact absurd hgw g
theorem vx_c {args : Array Value} {s : State} {w : Cond} {B : List Cond} (h : w.before args s = true) (t : ∀ w ∈ B, w.before args s = true) : ∀ w' ∈ w :: B, w'.before args s = true := fun w' h' => (List.mem_cons.mp h').elim (fun e => by rw [e]; exact h) (t w')
theorem vx_n {args : Array Value} {s : State} : ∀ w ∈ ([] : List Cond), w.before args s = true := fun _ h => nomatch h
theorem vx_own {args : Array Value} {s : State} {L : List Cond} (h1 : ∀ w ∈ L.filter vx_no, w.before args s = true)
    (hU : (Cond.isRef (.static Bundle.tN "UNASSIGNED_STACK" Bundle.steD)).before args s = true) (hN : (Cond.isRef (.static Bundle.tN "SUPPRESSED_SENTINEL" Bundle.listD)).before args s = true)
    (lU : (Cond.laysStatic Bundle.tN "UNASSIGNED_STACK" Bundle.steD).before args s = true) (lN : (Cond.laysStatic Bundle.tN "SUPPRESSED_SENTINEL" Bundle.listD).before args s = true) : ∀ w ∈ L, w.before args s = true := by
  intro w hw
  by_cases e1 : w = .isRef (.static Bundle.tN "UNASSIGNED_STACK" Bundle.steD)
  · rw [e1]; exact hU
  · by_cases e2 : w = .isRef (.static Bundle.tN "SUPPRESSED_SENTINEL" Bundle.listD)
    · rw [e2]; exact hN
    · by_cases e3 : w = .laysStatic Bundle.tN "UNASSIGNED_STACK" Bundle.steD
      · rw [e3]; exact lU
      · by_cases e4 : w = .laysStatic Bundle.tN "SUPPRESSED_SENTINEL" Bundle.listD
        · rw [e4]; exact lN
        · exact h1 w (List.mem_filter.mpr ⟨hw, by unfold vx_no; rw [decide_eq_true e1, decide_eq_true e2, decide_eq_true e3, decide_eq_true e4]; rfl⟩)
/-- where a static field lies, its class's statics cell in H -/
def vx_L (C n d : String) (A : Nat → Prop) (U : State) (H : Heap) : Prop := ∃ (c : ClassId) (k : Class) (i : Nat) (f : Field) (a : Nat) (cell : Cell), U.vm.findClass C = some c ∧ U.fieldFound? C n d = some (c, k, i, f) ∧ f.isStatic = true ∧ k.statics = some a ∧ H[a]? = some cell ∧ cell.vm.isStatics = true ∧ cell.cls = c ∧ f.slot < cell.slots.size ∧ k.staticTypes[f.slot]? = some f.type ∧ ¬ A a
theorem vx_L.moved {C n d : String} {A : Nat → Prop} {u U : State} {H : Heap} (hvm : u.vm.Alike U.vm) (h : vx_L C n d A u H) : vx_L C n d A U H := by
  obtain ⟨c, k, i, f, a, cell, h1, h2, h3, h4, h5, h6, h7, h8, h9, h10⟩ := h
  obtain ⟨k', hi', he⟩ := State.fieldFound?_setVm hvm h2
  exact ⟨c, k', i, f, a, cell, by rw [hvm.findClass]; exact h1, hi', h3, by rw [he]; exact h4, h5, h6, h7, h8, by rw [he]; exact h9, h10⟩
theorem vx_L.kept {C n d : String} {A : Nat → Prop} {U : State} {H H1 : Heap} (h : vx_L C n d A U H) (hq : ∀ a : Nat, a < H.size → ¬ A a → H1[a]? = H[a]?) : vx_L C n d A U H1 := by
  obtain ⟨c, k, i, f, a, cell, h1, h2, h3, h4, h5, h6, h7, h8, h9, h10⟩ := h
  exact ⟨c, k, i, f, a, cell, h1, h2, h3, h4, by rw [hq a (Array.getElem?_eq_some_iff.mp h5).1 h10]; exact h5, h6, h7, h8, h9, h10⟩
theorem vx_L.narrow {C n d : String} {A B : Nat → Prop} {U : State} {H : Heap} (h : vx_L C n d A U H) (hAB : ∀ q, B q → A q) : vx_L C n d B U H := by
  obtain ⟨c, k, i, f, a, cell, h1, h2, h3, h4, h5, h6, h7, h8, h9, h10⟩ := h
  exact ⟨c, k, i, f, a, cell, h1, h2, h3, h4, h5, h6, h7, h8, h9, fun z => h10 (hAB _ z)⟩
theorem vx_L.word {C n d : String} {A : Nat → Prop} {s : State} {args : Array Value} (h : vx_L C n d A s s.heap) : (Cond.laysStatic C n d).before args s = true := by
  obtain ⟨c, k, i, f, a, cell, h1, h2, h3, h4, h5, h6, h7, h8, h9, -⟩ := h
  show (Cond.laysStatic C n d).holds args s none s [] = true
  exact Cond.laysStatic_of h1 h2 h3 h4 h5 h6 h7 h8 h9
/-- .. and what it holds: null or some reference -/
def vx_Zq (C n d : String) (A : Nat → Prop) (U : State) (H : Heap) : Prop := va_Zq C n d A U H ∧ vx_L C n d A U H
theorem vx_Zq.moved {C n d : String} {A : Nat → Prop} {u U : State} {H : Heap} (hvm : u.vm.Alike U.vm) (h : vx_Zq C n d A u H) : vx_Zq C n d A U H := ⟨va_Zq.moved hvm h.1, vx_L.moved hvm h.2⟩
theorem vx_Zq.kept {C n d : String} {A : Nat → Prop} {U : State} {H H1 : Heap} (h : vx_Zq C n d A U H) (hq : ∀ a : Nat, a < H.size → ¬ A a → H1[a]? = H[a]?) : vx_Zq C n d A U H1 := ⟨va_Zq.kept h.1 hq, vx_L.kept h.2 hq⟩
theorem vx_Zq.narrow {C n d : String} {A B : Nat → Prop} {U : State} {H : Heap} (h : vx_Zq C n d A U H) (hAB : ∀ q, B q → A q) : vx_Zq C n d B U H := ⟨va_Zq.narrow h.1 hAB, vx_L.narrow h.2 hAB⟩
theorem vx_Zqof {args : Array Value} {s : State} {C n d : String} {A : Nat → Prop} (hl : (Cond.laysStatic C n d).before args s = true) (hini : (Cond.initialized C).before args s = true) (h : (Cond.isRef (.static C n d)).before args s = true) (hA : ∀ a : Nat, a < s.heap.size → ¬ A a) : vx_Zq C n d A s s.heap := by
  refine ⟨va_Zqof hl hini h hA, ?_⟩
  obtain ⟨c, k, i, f, a, cell, h1, h2, h3, h4, h5, h6, h7, h8, h9⟩ := Cond.laysStatic_spec hl
  exact ⟨c, k, i, f, a, cell, h1, h2, h3, h4, h5, h6, h7, h8, h9, hA a (Array.getElem?_eq_some_iff.mp h5).1⟩
theorem vx_isRef {C n d : String} {v : Value} {A : Nat → Prop} {s : State} {args : Array Value} (h : va_Z C n d v A s s.heap) (hv : v.isRef = true) : (Cond.isRef (.static C n d)).before args s = true := by
  obtain ⟨cf, kf, fi, f, a, cell, h1, h2, h3, h4, h5, h6, h7, -⟩ := h
  have he : (Term.static C n d).eval args s none [] s = some v := by
    simp [Term.eval, State.fieldNamed?, h1, h2, h4, h5, h6, h7]
  simp only [Cond.before, Cond.holds, Cond.value, he]
  cases v <;> simp_all [Value.isRef]
theorem vx_isRefq {C n d : String} {A : Nat → Prop} {s : State} {args : Array Value} (h : va_Zq C n d A s s.heap) : (Cond.isRef (.static C n d)).before args s = true := by
  rcases h with h | ⟨t, h⟩
  · exact vx_isRef h rfl
  · exact vx_isRef h rfl
/-- the same frame, seen from here: as if the method were called anew in this heap -/
theorem vx_rebase {T : State} (X : Stand p l e R s m args below meth c T locs cells slots) {R' : Room} (hf : R'.frames ≤ R.frames) (hl : R'.locals ≤ R.locals) (hc : cells + R'.cells ≤ R.cells) (hs : slots + R'.slots ≤ R.slots) :
    Stand p l e R' ((T.setVm s.vm).setFrames (.invoking m args :: below)) m args below meth c T [] 0 0 := by
  have htop : (T.setVm s.vm).topJava?.isSome := X.here.top
  have hF : ((T.setVm s.vm).setFrames (.invoking m args :: below)).frames = .invoking m args :: below := State.frames_setFrames _ (State.cur_lt_of_top htop)
  obtain ⟨g₀, hg0⟩ := Option.isSome_iff_exists.mp htop
  obtain ⟨r, hr⟩ := State.topJava?_eq_some.mp hg0
  have hl9 : e.platform.stackLimits (T.setVm s.vm).me = e.platform.stackLimits s.me := X.limits
  have hb9 : (T.setVm s.vm).me.stackBytes = s.me.stackBytes := X.bytes
  refine ⟨X.admits, X.cas, X.clock, hF, ?_, X.hears, X.method, X.code, X.here, X.tail, X.warmed, ?_, ?_, ?_⟩
  · have h := X.room
    have hU : ((T.setVm s.vm).setFrames (.invoking m args :: below)).localsInUse = s.localsInUse := by
      rw [State.localsInUse_invoking hF (meth := meth) (c := c) X.method X.code, State.localsInUse_invoking X.frames X.method X.code]
    simp only [State.hasRoom, Bool.and_eq_true, decide_eq_true_eq] at h ⊢
    obtain ⟨⟨⟨⟨h1, h2, h3, h4, h5, h6⟩, h7⟩, h8⟩, h9⟩ := h
    rw [X.frames, List.length_cons] at h2 h3
    have q1 := X.heapSize
    have q2 := X.used
    simp only [hF, hU, List.length_cons, State.stackLimits_setFrames, State.stackBytes_setFrames, hl9, hb9]
    refine ⟨⟨⟨⟨by omega, by omega, by omega, by omega, by omega, h6⟩, ?_⟩, ?_⟩, X.book⟩
    · show T.heap.size + R'.cells ≤ e.platform.maxCells
      omega
    · show T.slotsUsed + R'.slots ≤ e.platform.maxSlots
      omega
  · rw [State.stackLimits_setFrames]; rfl
  · rw [State.stackBytes_setFrames]; rfl
  · refine ⟨?_, Nat.le_refl _, Nat.le_refl _, ?_, ?_, fun a c9 h9 => ⟨c9, h9, rfl, rfl, fun _ _ => rfl⟩⟩
    · obtain ⟨t, ht, -⟩ := State.frames_cons hr
      show T.setVm s.vm = { ((T.setVm s.vm).setFrames (.invoking m args :: below)).setFrames (T.setVm s.vm).frames with heap := T.heap, slotsUsed := T.slotsUsed }
      rw [State.setFrames_setFrames, State.setFrames_self ht]
      rfl
    · show T.slotsUsed = T.slotsUsed + ((T.heap.toList.drop T.heap.size).map (·.slots.size)).sum
      rw [List.drop_eq_nil_of_le (Nat.le_of_eq Array.length_toList)]
      rfl
    · show ((T.heap.toList.drop T.heap.size).map (·.slots.size)).sum ≤ 0
      rw [List.drop_eq_nil_of_le (Nat.le_of_eq Array.length_toList)]
      exact Nat.le_refl _
/-- 'throw new E()': new; dup; invokespecial; athrow -/
theorem vx_throw0 {cc : ByteArray} {pc : Nat} (hexec : p.tables.exec = Jvm.exec) (hb : c.code = cc) (hl : l.stackTraces = false) {own cls : String} {names : List String} {ik ic mc ms : Nat} {A : Nat → Prop}
    (hown : s.vm.findClass own = some m.cls) (hcls : Bundle.fit cls = true) (hnames : ∀ n ∈ names, Bundle.fit n = true)
    (hk : (Cond.classLink own ik cls).before args s = true) (hini : (Cond.initialized cls).before args s = true) (hat : ∀ w ∈ vx_at0 own ic cls names, w.before args s = true)
    (hgood : ∀ w ∈ Cond.classLink own ik cls :: Cond.initialized cls :: vx_at0 own ic cls names, vx_ot w = true)
    (hU : vx_Zq Bundle.tN "UNASSIGNED_STACK" Bundle.steD A s s.heap) (hN : vx_Zq Bundle.tN "SUPPRESSED_SENTINEL" Bundle.listD A s s.heap) (hS : va_S A s.heap H locs) (hsize : ls.size = c.maxLocals)
    (d0 : decode cc pc = .ok (.new ik, 3)) (d3 : decode cc (pc + 3) = .ok (.dup, 1)) (d4 : decode cc (pc + 4) = .ok (.invokespecial ic, 3)) (d7 : decode cc (pc + 7) = .ok (.athrow, 1))
    (hout : ∀ x ∈ c.exceptionTable.toList, covers x (pc + 7) = false)
    (hRframes : names.length + 3 < R.frames) (hRlocals : (rest.map fun v => v.category).sum + (13 * (names.length + 1) + 42) ≤ R.locals) (hRcells : cells + 1 ≤ R.cells) (hRslots : slots + 6 ≤ R.slots) (hlocks : meth.locks = false)
    (hx : ∀ t : State, s.vm.Alike t.vm → H.size ≤ t.heap.size → (∀ q : Nat, q < H.size → t.heap[q]? = H[q]?) → XC cls s t)
    (hf : ∀ z ∈ locs, free z.base) (hc : cells + 1 ≤ mc) (hs : slots + 6 ≤ ms) :
    W p l e R s m args below meth c H locs cells slots (vx_MQ below Qc XC args s mc ms free) (F0 m pc ls rest) := by
  intro T hT X
  have htr : e.platform.stackTraces = false := (show e.platform.stackTraces = l.stackTraces by rw [X.admits.platform]).trans hl
  have Y := vx_rebase X (R' := { frames := R.frames, locals := R.locals, cells := 1, slots := 6 }) (Nat.le_refl _) (Nat.le_refl _) hRcells hRslots
  obtain ⟨s', hA⟩ : ∃ z, z = (T.setVm s.vm).setFrames (.invoking m args :: below) := ⟨_, rfl⟩
  rw [← hA] at Y
  have hvm : s'.vm = s.vm := by rw [hA]; rfl
  have hhp : s'.heap = H := by rw [hA]; exact hT
  have hW0 : s.WarmedH s'.vm := by rw [hvm]; exact State.WarmedH.refl s
  have hat' : ∀ w ∈ vx_at0 own ic cls names, w.before args s' = true := fun w hw => vx_ot_at hW0 hvm.symm (hgood w (List.mem_cons_of_mem _ (List.mem_cons_of_mem _ hw))) (hat w hw)
  have hk' : (Cond.classLink own ik cls).before args s' = true := vx_ot_at hW0 hvm.symm (hgood _ List.mem_cons_self) hk
  have hini' : (Cond.initialized cls).before args s' = true := vx_ot_at hW0 hvm.symm (hgood _ (List.mem_cons_of_mem _ List.mem_cons_self)) hini
  have hU' : vx_Zq Bundle.tN "UNASSIGNED_STACK" Bundle.steD A s' s'.heap := by rw [hhp]; exact vx_Zq.moved hW0.alike (hU.kept hS.2.1)
  have hN' : vx_Zq Bundle.tN "SUPPRESSED_SENTINEL" Bundle.listD A s' s'.heap := by rw [hhp]; exact vx_Zq.moved hW0.alike (hN.kept hS.2.1)
  have h : ∀ w ∈ Bundle.ownAtoms0 own ic cls names, w.before args s' = true := vx_own hat' (vx_isRefq hU'.1) (vx_isRefq hN'.1) hU'.2.word hN'.2.word
  have hown' : s'.vm.findClass own = some m.cls := by rw [hvm]; exact hown
  have hins : (Cond.instantiable cls 6).before args s' = true := h _ (by simp [Bundle.ownAtoms0])
  obtain ⟨vm₁, cX, kX, hfX, hkX, -, -, X₁, st1⟩ := Y.newCold hexec (own := own) (C := cls) (index := ik) (n := 6) hown' hk' hins hini'
    (g := F0 m pc ls rest) rfl (by rw [hb]; exact d0) (Nat.le_refl _) (Nat.le_refl _)
  generalize hT1 : (T.setVm vm₁).pushCell { cls := cX, slots := kX.instanceTypes.map defaultValue, vm := .none } = T1 at X₁ st1
  have hcat : (Value.ref T.heap.size).category = 1 := rfl
  have hcellA : T1.heap[T.heap.size]? = some (freshCell cX kX) := by rw [← hT1]; exact State.heap_pushCell_size _ _
  have d3' : decode c.code (pc + 3) = .ok (.dup, 1) := by rw [hb]; exact d3
  obtain ⟨U, hsteps, hrun, hend, hW, hsame, ce, hce, hO⟩ := X₁.ctorThrow0 hexec htr (own := own) (cls := cls) (names := names) (ic := ic) hown' hcls hnames h (fun x hx => nomatch hx) hfX hkX hcellA (by rw [hhp, hT]; exact Nat.le_refl _)
    (g := { method := m, pc := pc + 4, locals := ls, stack := .ref T.heap.size :: .ref T.heap.size :: rest, locked := none }) rfl hsize rfl rfl (rest := rest) rfl
    (by rw [hb]; exact d4) (by rw [hb]; exact d7) hout hRframes (by simp only [List.map_cons, List.sum_cons, hcat]; omega) hlocks
  obtain ⟨f1, f2⟩ := vx_frame hsame
  rw [hhp] at f1 f2
  have hWs : s.WarmedH U.vm := State.WarmedH.trans hW0 hW
  have hcl : s.vm.findClass cls = some ce.cls := by
    have h9 := hO.cls
    rw [hvm] at h9
    exact h9
  have hall : s.sameButNew ({ U with vm := s.vm } : State) locs mc ms := by
    subst hA
    obtain ⟨e1, e2⟩ := hsame
    rw [State.setFrames_setFrames] at e1
    have h2 : (T.setVm s.vm).sameButNew ({ U with vm := s.vm } : State) [] (0 + 1) (0 + 6) := ⟨e1, e2⟩
    have h3 := X.same.trans h2
    rw [List.append_nil] at h3
    exact h3.mono hc hs
  refine ⟨U, ?_, .threw T.heap.size, hrun, hend, Or.inr ⟨T.heap.size, rfl, cls, ce, locs, hx U hWs.alike f1 (fun q hq => f2 q hq (fun z hz => nomatch hz)), hce, hO.vm, hcl, hWs, hall, hf⟩⟩
  refine st1 _ ?_
  show Steps p.tables e below (T1.setTop { method := m, pc := pc + 3, locals := ls, stack := .ref T.heap.size :: rest, locked := none }) _
  jvm_step X₁.here [X₁.here.top, hexec, d3', Value.category]
  exact hsteps
/-- 'throw new E("text")': new; dup; ldc; invokespecial; athrow -/
theorem vx_throwS {cc : ByteArray} {pc : Nat} (hexec : p.tables.exec = Jvm.exec) (hb : c.code = cc) (hl : l.stackTraces = false) {own cls text : String} {names : List String} {ik is ic mc ms sa : Nat} {A : Nat → Prop}
    (hown : s.vm.findClass own = some m.cls) (hcls : Bundle.fit cls = true) (hnames : ∀ n ∈ names, Bundle.fit n = true)
    (hk : (Cond.classLink own ik cls).before args s = true) (hini : (Cond.initialized cls).before args s = true) (hstr : vk_R own is text sa s) (hat : ∀ w ∈ vx_atS own ic cls names, w.before args s = true)
    (hgood : ∀ w ∈ Cond.classLink own ik cls :: Cond.initialized cls :: vx_atS own ic cls names, vx_ot w = true)
    (hU : vx_Zq Bundle.tN "UNASSIGNED_STACK" Bundle.steD A s s.heap) (hN : vx_Zq Bundle.tN "SUPPRESSED_SENTINEL" Bundle.listD A s s.heap) (hS : va_S A s.heap H locs) (hsize : ls.size = c.maxLocals)
    (d0 : decode cc pc = .ok (.new ik, 3)) (d3 : decode cc (pc + 3) = .ok (.dup, 1)) (d4 : decode cc (pc + 4) = .ok (.ldc is, 2)) (d6 : decode cc (pc + 6) = .ok (.invokespecial ic, 3)) (d9 : decode cc (pc + 9) = .ok (.athrow, 1))
    (hout : ∀ x ∈ c.exceptionTable.toList, covers x (pc + 9) = false)
    (hRframes : names.length + 3 < R.frames) (hRlocals : (rest.map fun v => v.category).sum + (13 * (names.length + 1) + 43) ≤ R.locals) (hRcells : cells + 1 ≤ R.cells) (hRslots : slots + 6 ≤ R.slots) (hlocks : meth.locks = false)
    (hx : ∀ t : State, s.vm.Alike t.vm → H.size ≤ t.heap.size → (∀ q : Nat, q < H.size → t.heap[q]? = H[q]?) → XC cls s t)
    (hf : ∀ z ∈ locs, free z.base) (hc : cells + 1 ≤ mc) (hs : slots + 6 ≤ ms) :
    W p l e R s m args below meth c H locs cells slots (vx_MQ below Qc XC args s mc ms free) (F0 m pc ls rest) := by
  intro T hT X
  have htr : e.platform.stackTraces = false := (show e.platform.stackTraces = l.stackTraces by rw [X.admits.platform]).trans hl
  have Y := vx_rebase X (R' := { frames := R.frames, locals := R.locals, cells := 1, slots := 6 }) (Nat.le_refl _) (Nat.le_refl _) hRcells hRslots
  obtain ⟨s', hA⟩ : ∃ z, z = (T.setVm s.vm).setFrames (.invoking m args :: below) := ⟨_, rfl⟩
  rw [← hA] at Y
  have hvm : s'.vm = s.vm := by rw [hA]; rfl
  have hhp : s'.heap = H := by rw [hA]; exact hT
  have hW0 : s.WarmedH s'.vm := by rw [hvm]; exact State.WarmedH.refl s
  have hat' : ∀ w ∈ vx_atS own ic cls names, w.before args s' = true := fun w hw => vx_ot_at hW0 hvm.symm (hgood w (List.mem_cons_of_mem _ (List.mem_cons_of_mem _ hw))) (hat w hw)
  have hk' : (Cond.classLink own ik cls).before args s' = true := vx_ot_at hW0 hvm.symm (hgood _ List.mem_cons_self) hk
  have hini' : (Cond.initialized cls).before args s' = true := vx_ot_at hW0 hvm.symm (hgood _ (List.mem_cons_of_mem _ List.mem_cons_self)) hini
  have hU' : vx_Zq Bundle.tN "UNASSIGNED_STACK" Bundle.steD A s' s'.heap := by rw [hhp]; exact vx_Zq.moved hW0.alike (hU.kept hS.2.1)
  have hN' : vx_Zq Bundle.tN "SUPPRESSED_SENTINEL" Bundle.listD A s' s'.heap := by rw [hhp]; exact vx_Zq.moved hW0.alike (hN.kept hS.2.1)
  have h : ∀ w ∈ Bundle.ownAtoms own ic cls names, w.before args s' = true := vx_own hat' (vx_isRefq hU'.1) (vx_isRefq hN'.1) hU'.2.word hN'.2.word
  have hown' : s'.vm.findClass own = some m.cls := by rw [hvm]; exact hown
  have hins : (Cond.instantiable cls 6).before args s' = true := h _ (by simp [Bundle.ownAtoms])
  obtain ⟨vm₁, cX, kX, hfX, hkX, -, -, X₁, st1⟩ := Y.newCold hexec (own := own) (C := cls) (index := ik) (n := 6) hown' hk' hins hini'
    (g := F0 m pc ls rest) rfl (by rw [hb]; exact d0) (Nat.le_refl _) (Nat.le_refl _)
  generalize hT1 : (T.setVm vm₁).pushCell { cls := cX, slots := kX.instanceTypes.map defaultValue, vm := .none } = T1 at X₁ st1
  have hcat : (Value.ref T.heap.size).category = 1 := rfl
  have hcellA : T1.heap[T.heap.size]? = some (freshCell cX kX) := by rw [← hT1]; exact State.heap_pushCell_size _ _
  have d3' : decode c.code (pc + 3) = .ok (.dup, 1) := by rw [hb]; exact d3
  have d4' : decode c.code (pc + 4) = .ok (.ldc is, 2) := by rw [hb]; exact d4
  have hstr' : vk_R own is text sa s' := vk_R.warm hW0 hstr
  obtain ⟨U, hsteps, hrun, hend, hW, hsame, ce, hce, hO⟩ := X₁.ctorThrowS hexec htr (own := own) (cls := cls) (names := names) (ic := ic) hown' hcls hnames h (fun x hx => nomatch hx) hfX hkX hcellA (by rw [hhp, hT]; exact Nat.le_refl _) (msg := .ref sa) rfl
    (g := { method := m, pc := pc + 6, locals := ls, stack := .ref sa :: .ref T.heap.size :: .ref T.heap.size :: rest, locked := none }) rfl hsize rfl rfl (rest := rest) rfl
    (by rw [hb]; exact d6) (by rw [hb]; exact d9) hout hRframes (by simp only [List.map_cons, List.sum_cons, hcat]; omega) hlocks
  obtain ⟨f1, f2⟩ := vx_frame hsame
  rw [hhp] at f1 f2
  have hWs : s.WarmedH U.vm := State.WarmedH.trans hW0 hW
  have hcl : s.vm.findClass cls = some ce.cls := by
    have h9 := hO.cls
    rw [hvm] at h9
    exact h9
  have hall : s.sameButNew ({ U with vm := s.vm } : State) locs mc ms := by
    subst hA
    obtain ⟨e1, e2⟩ := hsame
    rw [State.setFrames_setFrames] at e1
    have h2 : (T.setVm s.vm).sameButNew ({ U with vm := s.vm } : State) [] (0 + 1) (0 + 6) := ⟨e1, e2⟩
    have h3 := X.same.trans h2
    rw [List.append_nil] at h3
    exact h3.mono hc hs
  refine ⟨U, ?_, .threw T.heap.size, hrun, hend, Or.inr ⟨T.heap.size, rfl, cls, ce, locs, hx U hWs.alike f1 (fun q hq => f2 q hq (fun z hz => nomatch hz)), hce, hO.vm, hcl, hWs, hall, hf⟩⟩
  refine st1 _ ?_
  show Steps p.tables e below (T1.setTop { method := m, pc := pc + 3, locals := ls, stack := .ref T.heap.size :: rest, locked := none }) _
  jvm_step X₁.here [X₁.here.top, hexec, d3', Value.category]
  exact X₁.ldcString hexec (own := own) (text := text) (index := is) (a := sa) hown' hstr'.1 hstr'.2
    (g := { method := m, pc := pc + 4, locals := ls, stack := .ref T.heap.size :: .ref T.heap.size :: rest, locked := none }) rfl d4' _ hsteps
/-- 'throw new E("text")', the text by a wide index -/
theorem vx_throwSW {cc : ByteArray} {pc : Nat} (hexec : p.tables.exec = Jvm.exec) (hb : c.code = cc) (hl : l.stackTraces = false) {own cls text : String} {names : List String} {ik is ic mc ms sa : Nat} {A : Nat → Prop}
    (hown : s.vm.findClass own = some m.cls) (hcls : Bundle.fit cls = true) (hnames : ∀ n ∈ names, Bundle.fit n = true)
    (hk : (Cond.classLink own ik cls).before args s = true) (hini : (Cond.initialized cls).before args s = true) (hstr : vk_R own is text sa s) (hat : ∀ w ∈ vx_atS own ic cls names, w.before args s = true)
    (hgood : ∀ w ∈ Cond.classLink own ik cls :: Cond.initialized cls :: vx_atS own ic cls names, vx_ot w = true)
    (hU : vx_Zq Bundle.tN "UNASSIGNED_STACK" Bundle.steD A s s.heap) (hN : vx_Zq Bundle.tN "SUPPRESSED_SENTINEL" Bundle.listD A s s.heap) (hS : va_S A s.heap H locs) (hsize : ls.size = c.maxLocals)
    (d0 : decode cc pc = .ok (.new ik, 3)) (d3 : decode cc (pc + 3) = .ok (.dup, 1)) (d4 : decode cc (pc + 4) = .ok (.ldc_w is, 3)) (d7 : decode cc (pc + 7) = .ok (.invokespecial ic, 3)) (d10 : decode cc (pc + 10) = .ok (.athrow, 1))
    (hout : ∀ x ∈ c.exceptionTable.toList, covers x (pc + 10) = false)
    (hRframes : names.length + 3 < R.frames) (hRlocals : (rest.map fun v => v.category).sum + (13 * (names.length + 1) + 43) ≤ R.locals) (hRcells : cells + 1 ≤ R.cells) (hRslots : slots + 6 ≤ R.slots) (hlocks : meth.locks = false)
    (hx : ∀ t : State, s.vm.Alike t.vm → H.size ≤ t.heap.size → (∀ q : Nat, q < H.size → t.heap[q]? = H[q]?) → XC cls s t)
    (hf : ∀ z ∈ locs, free z.base) (hc : cells + 1 ≤ mc) (hs : slots + 6 ≤ ms) :
    W p l e R s m args below meth c H locs cells slots (vx_MQ below Qc XC args s mc ms free) (F0 m pc ls rest) := by
  intro T hT X
  have htr : e.platform.stackTraces = false := (show e.platform.stackTraces = l.stackTraces by rw [X.admits.platform]).trans hl
  have Y := vx_rebase X (R' := { frames := R.frames, locals := R.locals, cells := 1, slots := 6 }) (Nat.le_refl _) (Nat.le_refl _) hRcells hRslots
  obtain ⟨s', hA⟩ : ∃ z, z = (T.setVm s.vm).setFrames (.invoking m args :: below) := ⟨_, rfl⟩
  rw [← hA] at Y
  have hvm : s'.vm = s.vm := by rw [hA]; rfl
  have hhp : s'.heap = H := by rw [hA]; exact hT
  have hW0 : s.WarmedH s'.vm := by rw [hvm]; exact State.WarmedH.refl s
  have hat' : ∀ w ∈ vx_atS own ic cls names, w.before args s' = true := fun w hw => vx_ot_at hW0 hvm.symm (hgood w (List.mem_cons_of_mem _ (List.mem_cons_of_mem _ hw))) (hat w hw)
  have hk' : (Cond.classLink own ik cls).before args s' = true := vx_ot_at hW0 hvm.symm (hgood _ List.mem_cons_self) hk
  have hini' : (Cond.initialized cls).before args s' = true := vx_ot_at hW0 hvm.symm (hgood _ (List.mem_cons_of_mem _ List.mem_cons_self)) hini
  have hU' : vx_Zq Bundle.tN "UNASSIGNED_STACK" Bundle.steD A s' s'.heap := by rw [hhp]; exact vx_Zq.moved hW0.alike (hU.kept hS.2.1)
  have hN' : vx_Zq Bundle.tN "SUPPRESSED_SENTINEL" Bundle.listD A s' s'.heap := by rw [hhp]; exact vx_Zq.moved hW0.alike (hN.kept hS.2.1)
  have h : ∀ w ∈ Bundle.ownAtoms own ic cls names, w.before args s' = true := vx_own hat' (vx_isRefq hU'.1) (vx_isRefq hN'.1) hU'.2.word hN'.2.word
  have hown' : s'.vm.findClass own = some m.cls := by rw [hvm]; exact hown
  have hins : (Cond.instantiable cls 6).before args s' = true := h _ (by simp [Bundle.ownAtoms])
  obtain ⟨vm₁, cX, kX, hfX, hkX, -, -, X₁, st1⟩ := Y.newCold hexec (own := own) (C := cls) (index := ik) (n := 6) hown' hk' hins hini'
    (g := F0 m pc ls rest) rfl (by rw [hb]; exact d0) (Nat.le_refl _) (Nat.le_refl _)
  generalize hT1 : (T.setVm vm₁).pushCell { cls := cX, slots := kX.instanceTypes.map defaultValue, vm := .none } = T1 at X₁ st1
  have hcat : (Value.ref T.heap.size).category = 1 := rfl
  have hcellA : T1.heap[T.heap.size]? = some (freshCell cX kX) := by rw [← hT1]; exact State.heap_pushCell_size _ _
  have d3' : decode c.code (pc + 3) = .ok (.dup, 1) := by rw [hb]; exact d3
  have d4' : decode c.code (pc + 4) = .ok (.ldc_w is, 3) := by rw [hb]; exact d4
  have hstr' : vk_R own is text sa s' := vk_R.warm hW0 hstr
  obtain ⟨U, hsteps, hrun, hend, hW, hsame, ce, hce, hO⟩ := X₁.ctorThrowS hexec htr (own := own) (cls := cls) (names := names) (ic := ic) hown' hcls hnames h (fun x hx => nomatch hx) hfX hkX hcellA (by rw [hhp, hT]; exact Nat.le_refl _) (msg := .ref sa) rfl
    (g := { method := m, pc := pc + 7, locals := ls, stack := .ref sa :: .ref T.heap.size :: .ref T.heap.size :: rest, locked := none }) rfl hsize rfl rfl (rest := rest) rfl
    (by rw [hb]; exact d7) (by rw [hb]; exact d10) hout hRframes (by simp only [List.map_cons, List.sum_cons, hcat]; omega) hlocks
  obtain ⟨f1, f2⟩ := vx_frame hsame
  rw [hhp] at f1 f2
  have hWs : s.WarmedH U.vm := State.WarmedH.trans hW0 hW
  have hcl : s.vm.findClass cls = some ce.cls := by
    have h9 := hO.cls
    rw [hvm] at h9
    exact h9
  have hall : s.sameButNew ({ U with vm := s.vm } : State) locs mc ms := by
    subst hA
    obtain ⟨e1, e2⟩ := hsame
    rw [State.setFrames_setFrames] at e1
    have h2 : (T.setVm s.vm).sameButNew ({ U with vm := s.vm } : State) [] (0 + 1) (0 + 6) := ⟨e1, e2⟩
    have h3 := X.same.trans h2
    rw [List.append_nil] at h3
    exact h3.mono hc hs
  refine ⟨U, ?_, .threw T.heap.size, hrun, hend, Or.inr ⟨T.heap.size, rfl, cls, ce, locs, hx U hWs.alike f1 (fun q hq => f2 q hq (fun z hz => nomatch hz)), hce, hO.vm, hcl, hWs, hall, hf⟩⟩
  refine st1 _ ?_
  show Steps p.tables e below (T1.setTop { method := m, pc := pc + 3, locals := ls, stack := .ref T.heap.size :: rest, locked := none }) _
  jvm_step X₁.here [X₁.here.top, hexec, d3', Value.category]
  exact X₁.ldcStringW hexec (own := own) (text := text) (index := is) (a := sa) hown' hstr'.1 hstr'.2
    (g := { method := m, pc := pc + 4, locals := ls, stack := .ref T.heap.size :: .ref T.heap.size :: rest, locked := none }) rfl d4' _ hsteps
end Ends
section Bodies
variable {l : Launch}
theorem vx_ofW {y : MethodName} {ws ws' : List Cond} {rm : Room} {Pc : Array Value → State → Prop} {Qc : Array Value → State → Outcome → State → Prop} {XC : String → State → State → Prop} {mc ms : Nat} {free : Addr → Prop} {cc : ByteArray} {maxL : Nat} {ret : Option FieldType}
    (hy : plainName y.cls = true) (hw : ws = Cond.code y cc maxL ret :: ws')
    (body : ∀ p e s m args below meth c s₁, BodyLoose p l y (headSpec ws rm) cc maxL ret e s m args below meth c s₁ → c.maxLocals = maxL → (∀ x ∈ c.exceptionTable.toList, False) → Pc args s →
      W p l e (headSpec ws rm).room s m args below meth c s.heap [] 0 0 (vx_MQ below Qc XC args s mc ms free) (entryFrame m args maxL)) : vx_Met l y ws rm Pc Qc XC mc ms free := by
  refine MetFree.of_bodyS (code := cc) (maxLocals := maxL) (ret := ret) hy ?_ ?_
  · intro args s m h hn
    obtain ⟨meth, c, h1, h2, h3, h4, h5, h6, -, -⟩ := Cond.code_spec hn (atoms_spec (ws := ws) h _ (by rw [hw]; exact List.mem_cons_self))
    exact ⟨meth, c, h1, h2, h3, h4, h5, h6⟩
  · intro p e s m args below meth c s₁ B hml hP _
    have hh0 : s₁.heap = s.heap := by rw [B.state]; rfl
    have ht : ∀ x ∈ c.exceptionTable.toList, False := by
      obtain ⟨meth9, c9, h1, h2, -, -, -, -, h7, -⟩ := Cond.code_spec B.named (atoms_spec (ws := ws) B.pre _ (by rw [hw]; exact List.mem_cons_self))
      cases Option.some.inj (h1.symm.trans B.method)
      cases Option.some.inj (h2.symm.trans (Stand.of_body B).code)
      intro x hx
      rw [Array.isEmpty_iff.mp h7] at hx
      cases hx
    obtain ⟨t, a1, o, b1, b2, b3⟩ := body p e s m args below meth c s₁ B hml ht hP s₁ hh0 (Stand.of_body B)
    exact ⟨t, o, a1, b1, b2, b3⟩
/-- the table of a body with handlers -/
theorem vx_table {p : Program} {x y : MethodName} {S : Spec} {cc bytes : ByteArray} {maxL maxL' : Nat} {ret ret' : Option FieldType} {e : Env} {s s₁ : State} {m : MethodId} {args : Array Value} {below : List Frame} {meth : Method} {c : Code} {hh : List (Nat × Nat × Nat × Nat)}
    (B : BodyLoose p l y S cc maxL ret e s m args below meth c s₁) (h : (Cond.codeWith y bytes maxL' ret' hh).before args s = true) : c.exceptionTable.toList = tableOf hh := by
  obtain ⟨m9, meth9, c9, hn9, h1, h2, -, -, h6, -⟩ := Cond.codeWith_spec h
  cases Option.some.inj (hn9.symm.trans B.named)
  cases Option.some.inj (h1.symm.trans B.method)
  cases Option.some.inj (h2.symm.trans (Stand.of_body B).code)
  rw [← h6, table_eq]
end Bodies
end VXA
/-! ===== END ===== -/
/-! ===== BEGIN a static call of a method with an exception table ===== -/
section VXS
variable {p : Program} {l : Launch} {e : Env} {R : Room} {s : State} {m : MethodId} {args : Array Value} {below : List Frame} {meth : Method} {c : Code} {T : State} {H : Heap} {locs : List Loc} {cells slots : Nat}
abbrev vx_CSW (R : Room) (s : State) (args : Array Value) (own : String) (index : Nat) (y : MethodName) (bytes : ByteArray) (maxL : Nat) (ret : Option FieldType) (hh : List (Nat × Nat × Nat × Nat)) (ws : List Cond) (rm : Room) (mc ms n : Nat) : Prop :=
  (rm.cells = mc ∧ rm.slots = ms ∧ rm.frames + 1 ≤ R.frames ∧ 8 + (maxL + 11) + rm.locals ≤ R.locals ∧ (∀ w ∈ ws, ∀ (a' : Array Value) (U : State), s.WarmedH U.vm → w.before a' U = true) ∧ Cond.codeWith y bytes maxL ret hh ∈ ws) ∧
  (Cond.codeWith y bytes maxL ret hh).before args s = true ∧ (Cond.initialized y.cls).before args s = true ∧ (y.cls ≠ "java/lang/invoke/MethodHandle" ∧ y.cls ≠ "java/lang/invoke/VarHandle") ∧
  (∀ sig, parseMethodDescriptor y.desc = some sig → n = sig.parameters.length) ∧ (Cond.methodLink own index y).before args s = true ∧ (Cond.static y).before args s = true
theorem vx_cwSW {own : String} {index maxL mc ms : Nat} {y : MethodName} {bytes : ByteArray} {ret : Option FieldType} {hh : List (Nat × Nat × Nat × Nat)} {Ts ws ws' : List Cond} {rm : Room} (n : Nat) (ht : ∀ w ∈ Ts, w.before args s = true) (hT : GoodIn Ts (va_wsS own index y ws)) (hw : ws = Cond.codeWith y bytes maxL ret hh :: ws') (hrc : rm.cells = mc) (hrs : rm.slots = ms)
    (hd : y.cls ≠ "java/lang/invoke/MethodHandle" ∧ y.cls ≠ "java/lang/invoke/VarHandle" ∧ (parseMethodDescriptor y.desc).map (fun d => d.parameters.length) = some n) (hR : rm.frames + 1 ≤ R.frames ∧ 8 + (maxL + 11) + rm.locals ≤ R.locals) :
    vx_CSW R s args own index y bytes maxL ret hh ws rm mc ms n := by
  have ok : ∀ w ∈ va_wsS own index y ws, w.before args s = true := fun w h => ht w (hT w h).1
  have hG : GoodIn Ts ws := fun w h => hT w (by unfold va_wsS; exact List.mem_append_right _ h)
  have hc : Cond.codeWith y bytes maxL ret hh ∈ ws := by rw [hw]; exact List.mem_cons_self
  refine ⟨⟨hrc, hrs, hR.1, hR.2, pay_in ht hG, hc⟩, ht _ (hG _ hc).1, ok _ (by simp [va_wsS]), ⟨hd.1, hd.2.1⟩, fun sig h => ?_, ok _ (by simp [va_wsS]), ok _ (by simp [va_wsS])⟩
  have h2 := hd.2.2
  rw [h] at h2
  exact (Option.some.inj h2).symm
theorem vx_callSW (X : Stand p l e R s m args below meth c T locs cells slots) (hexec : p.tables.exec = Jvm.exec) {own : String} {index : Nat} {y : MethodName} {bytes : ByteArray} {maxL : Nat} {ret : Option FieldType} {hh : List (Nat × Nat × Nat × Nat)}
    (hown : s.vm.findClass own = some m.cls) (hlink : (Cond.methodLink own index y).before args s = true) (hstat : (Cond.static y).before args s = true) (hinit : (Cond.initialized y.cls).before args s = true)
    (hcode : (Cond.codeWith y bytes maxL ret hh).before args s = true) (hy : y.cls ≠ "java/lang/invoke/MethodHandle" ∧ y.cls ≠ "java/lang/invoke/VarHandle")
    {W9 : Nat} {Pre : Pt → Array Value → Prop} {Post : Pt → Array Value → Option Value → Pt → Prop} (hK : Back l R p e below s args y 3 W9 Pre Post)
    {g : JFrame} (hg : g.method = m) (hsize : g.locals.size = c.maxLocals) {argsL rest : List Value} (hlen : ∀ sig, parseMethodDescriptor y.desc = some sig → argsL.length = sig.parameters.length)
    (hstack : g.stack = argsL.reverse ++ rest) (hW : 2 * g.monitorRoom + (rest.map fun v => v.category).sum ≤ W9) (hdg : decode c.code g.pc = .ok (.invokestatic index, 3))
    (hpre : ∀ vm₁, s.WarmedH vm₁ → Pre ⟨T.setVm vm₁, locs, cells, slots⟩ argsL.toArray) :
    ∃ (v : Option Value) (vm₁ : Vm) (B : Pt), s.WarmedH vm₁ ∧ Stand p l e R s m args below meth c B.U B.locs B.cells B.slots ∧ Post ⟨T.setVm vm₁, locs, cells, slots⟩ argsL.toArray v B ∧
      ∀ target, Steps p.tables e below (B.U.setTop { g with pc := g.pc + 3, stack := v.toList ++ rest }) target → Steps p.tables e below (T.setTop g) target := by
  obtain ⟨mk, methM, cM, hnamed, hmethM, -, -, -, -, -, -, hsigM⟩ := Cond.codeWith_spec hcode
  have hstatic : methM.isStatic = true := Cond.static_spec hnamed hmethM hstat
  obtain ⟨kP, hkP, -⟩ := className_of_methodNamed hnamed
  have hinitP : kP.init = .initialized := Cond.initialized_spec (findClass_of_methodNamed hnamed) hkP hinit
  obtain ⟨vm₁, X₁, hstep₁⟩ := X.invokestatic hexec hown hlink hnamed hmethM hstatic hkP hinitP hy (g := g) hg (argsL := argsL) (rest := rest) (hlen _ hsigM) hstack hdg
  obtain ⟨v, B, X', hpost, hsteps⟩ := hK m meth c ⟨T.setVm vm₁, locs, cells, slots⟩ { g with stack := rest } (.invokestatic index) mk argsL.toArray X₁ hg hsize hdg hW (X₁.named hnamed) (hpre vm₁ X₁.warmed)
  exact ⟨v, vm₁, B, X₁.warmed, X', hpost, fun target h => hstep₁ _ fun acts => by rw [doInvoke_state]; exact hsteps.trans h⟩
theorem vx_runSW {y : MethodName} {bytes cc : ByteArray} {maxL nL mc ms n index : Nat} {ret : Option FieldType} {hh : List (Nat × Nat × Nat × Nat)} {ws : List Cond} {rm : Room} {Pc : Array Value → State → Prop} {Qc : Array Value → State → Outcome → State → Prop} {free : Addr → Prop} {Ts : List Cond} {own : String} {As rest : List Value} {g : JFrame}
    (S : CallFix p m c cc nL s args Ts own) (hM : Met l y ws rm Pc Qc mc ms free) (cw : vx_CSW R s args own index y bytes maxL ret hh ws rm mc ms n) (hp : PreS s H Pc As)
    (hg : g.method = m) (hn : As.length = n) (hsize : g.locals.size = nL) (hstack : g.stack = As.reverse ++ rest) (hW : 2 * g.monitorRoom + (rest.map fun v => v.category).sum ≤ 8) (hdg : decode cc g.pc = .ok (.invokestatic index, 3)) (hf : cells + mc ≤ R.cells ∧ slots + ms ≤ R.slots) :
    va_Run p l e R s m args below meth c H locs cells slots mc ms g rest (Qc As.toArray) (free) := by
  obtain ⟨⟨hrc, hrs, hfr, hlo, hws, hcw⟩, hcode, hini, hy, hlen, hl, hstt⟩ := cw
  have hK : Back l R p e below s args y 3 8 (PreOf R mc ms Pc) (PostOf Qc mc ms free) := va_backW (hh := hh) (bytes := bytes) (maxL := maxL) (ret := ret) hM hp.1 hrc hrs hfr hlo hws hcw (fun a' U hW => word_at hW (Or.inl (by first | rfl | simp [Cond.onTables, Cond.keeps, Cond.steady])) hini)
  obtain ⟨hx, hb, hml, ho, -⟩ := S
  intro T hT X
  obtain ⟨v, vm₁, ⟨U', l2, c2, s2⟩, hW₁, X', ⟨g', mk, t, L, e1, e2, hq, h1, hL, h2, h3⟩, st⟩ := vx_callSW X hx (hh := hh) (bytes := bytes) (maxL := maxL) (ret := ret) ho hl hstt hini hcode hy hK hg (hsize.trans hml.symm) (argsL := As) (rest := rest) (fun sig h => hn.trans (hlen sig h)) hstack hW (by rw [hb]; exact hdg)
    (fun vm₁ hW₁ => ⟨hf.1, hf.2, hp.2 (T.setVm vm₁) hT hW₁⟩)
  dsimp only [Pt.U, Pt.locs, Pt.cells, Pt.slots] at X' e1 e2 h1 h2 h3 st
  subst h1; subst h2; subst h3
  exact ⟨v, (T.setVm vm₁).calling g' mk As.toArray, t, U', L, hT, X', hL, e1, e2, hq, st⟩
/-- not caught here, past rows that name other classes: it goes on to the caller -/
theorem vx_outP {p : Program} {l : Launch} {e : Env} {R : Room} {s : State} {m : MethodId} {args : Array Value} {below : List Frame} {meth : Method} {c : Code} {H : Heap} {locs : List Loc} {cells slots : Nat} {free : Addr → Prop} {ls : Array Slot} {rest : List Value} {Qc : Array Value → State → Outcome → State → Prop} {XC : String → State → State → Prop}
    {pc : Nat} {own E : String} {ce : Cell} {q : Addr} {mc ms : Nat} (hown : s.vm.findClass own = some m.cls) (hlocks : meth.locks = false)
    (hpass : ∀ z ∈ c.exceptionTable.toList, covers z pc = false ∨ (z.catchType ≠ 0 ∧ ∃ nm : String, (Cond.classLink own z.catchType nm).before args s = true ∧ va_Nc E nm s)) (hcell : H[q]? = some ce) (hv : ce.vm = .none) (hcl : s.vm.findClass E = some ce.cls)
    (hx : ∀ t : State, t.heap = H → s.vm.Alike t.vm → XC E s t) (hf : ∀ z ∈ locs, free z.base) (hc : cells ≤ mc) (hs : slots ≤ ms) :
    vx_W p l e R s m args below meth c H locs cells slots (vx_MQ below Qc XC args s mc ms free) (F0 m pc ls rest) q := by
  intro T hT X
  have hpl : e.platform.magicAccessors = ({} : Platform).magicAccessors := by rw [X.admits.platform]
  obtain ⟨vm', hW', X', st⟩ := X.outThrough hlocks q (g := F0 m pc ls rest) rfl rfl rfl (cell := ce) (by rw [hT]; exact hcell) (by rw [hv]; rfl)
    (by obtain ⟨k9, h9, -⟩ := Vm.findClass_spec hcl; exact ⟨k9, h9⟩) (fun z hz => by
      rcases hpass z hz with h | ⟨hz0, nm, hl1, hn1⟩
      · exact Or.inl h
      · obtain ⟨c6, hc6, hcl6⟩ := Cond.classLink_spec hown hl1 e.platform hpl
        obtain ⟨a8, b8, h1, h2, h3⟩ := hn1
        cases Option.some.inj (h1.symm.trans hcl)
        cases Option.some.inj (h2.symm.trans hc6)
        exact Or.inr ⟨hz0, _, hcl6, h3⟩)
  obtain ⟨g₀, hfr⟩ := X'.frames_eq
  have hcell9 : ((T.setVm vm').setFrames (.throwing q :: below)).heap[q]? = some ce := by
    show T.heap[q]? = some ce
    rw [hT]; exact hcell
  have hend : Ended ((T.setVm vm').setFrames (.throwing q :: below)) below (.threw q) := State.frames_setFrames _ (State.cur_lt_of_frames hfr)
  refine ⟨(T.setVm vm').setFrames (.throwing q :: below), ?_, .threw q, X'.here.running, hend, Or.inr ⟨q, rfl, E, ce, locs, hx _ hT (X'.ends _).1.alike, hcell9, hv, hcl, (X'.ends _).1, (X'.ends _).2.mono hc hs, hf⟩⟩
  rw [X.pushThrowing_eq]
  exact st
/-- a thing of a world lies in the heap -/
theorem vx_lt {D : va_G} {cl : List vw_C} {ws : va_W} {H1 : Heap} (h : va_P D cl ws H1) {k : Nat} {q : Nat × va_E} (hk : ws[k]? = some q) : q.1 < H1.size := (h k q hk).lt
end VXS
/-! ===== END ===== -/
/-! ===== BEGIN methods with a table of their own: called by a name, returning or throwing ===== -/
section VXH
/-! vx_backW, vx_callVX, vx_callSX, vx_callVW, vx_runVW, vx_runVX, vx_runSX, vx_ofWH follow the same proofs as their sisters above (Free/Laws.lean, Shelf42/LK1.lean); vx_outP calls Shelf42/NT130.lean (outThrough). -/
section
variable {l : Launch} {R : Room} {p : Program} {e : Env} {below : List Frame} {s : State} {sargs : Array Value} {y : MethodName} {len W9 : Nat}
theorem vx_backW {ws : List Cond} {rm : Room} {Pc : Array Value → State → Prop} {Qc : Array Value → State → Outcome → State → Prop} {XC : String → State → State → Prop} {mc ms : Nat} {free : Addr → Prop} {bytes : ByteArray} {maxL : Nat} {ret : Option FieldType} {hh : List (Nat × Nat × Nat × Nat)}
    (hM : vx_Met l y ws rm Pc Qc XC mc ms free) (hblind : FrameBlind Pc) (hrc : rm.cells = mc) (hrs : rm.slots = ms)
    (hframes : rm.frames + 1 ≤ R.frames) (hlocals : W9 + (maxL + 11) + rm.locals ≤ R.locals)
    (hws : ∀ w ∈ ws, ∀ a' U, s.WarmedH U.vm → w.before a' U = true) (hcode : Cond.codeWith y bytes maxL ret hh ∈ ws) (hinit : ∀ a' U, s.WarmedH U.vm → (Cond.initialized y.cls).before a' U = true) :
    vx_Back l R p e below s sargs y len W9 (PreOf R mc ms Pc) (PostOf Qc mc ms free) (vx_Post XC mc ms free) := by
  intro m meth c A g ig mk a X hg hsize hdg hW hn hp
  have h1 : (headSpec ws rm).pre.before a A.U = true := atoms_intro fun w hw => hws w hw _ _ X.warmed
  have h2 : (Cond.codeWith y bytes maxL ret hh).before a A.U = true := hws _ hcode _ _ X.warmed
  have h3 : (Cond.initialized y.cls).before a A.U = true := hinit _ _ X.warmed
  have h4 : A.cells + (headSpec ws rm).room.cells ≤ R.cells := by rw [show (headSpec ws rm).room.cells = mc from hrc]; exact hp.1
  have h5 : A.slots + (headSpec ws rm).room.slots ≤ R.slots := by rw [show (headSpec ws rm).room.slots = ms from hrs]; exact hp.2.1
  have hPc : Pc a (A.U.calling g mk a) := hblind _ _ _ _ hp.2.2
  obtain ⟨U, Ls, c0, s0⟩ := A
  dsimp only [Pt.U, Pt.locs, Pt.cells, Pt.slots] at h1 h2 h3 h4 h5 X hn hPc ⊢
  obtain ⟨m9, methY, cY, hn9, hmY, hcY, -, hlY, -⟩ := Cond.codeWith_spec h2
  cases Option.some.inj (hn9.symm.trans hn)
  obtain ⟨kY, hkY, -⟩ := className_of_methodNamed hn
  have hinitY : kY.init = .initialized := Cond.initialized_spec (findClass_of_methodNamed hn) hkY h3
  have h : At U g.method c below := by rw [hg]; exact X.here
  have hlocals9 : W9 + (maxL + 11) + (headSpec ws rm).room.locals ≤ R.locals := hlocals
  have happ : (headSpec ws rm).appliesLoose y e.platform (U.calling g mk a) = true :=
    Spec.appliesLoose_calling (g := g) h hdg hn hkY hinitY
      (X.room_calling (g := g) (R' := (headSpec ws rm).room) hsize hmY hcY hframes (by rw [hlY]; omega) h4 h5) h1
  obtain ⟨mid, hmid⟩ := h.above
  have hfr : (U.setTop g).frames = (.java g :: mid) ++ below := by rw [State.frames_setTop' g h.top, hmid]; rfl
  obtain ⟨o, s₂, hsteps, -, hend, hq⟩ := Steps.callFree hM p X.admits X.cas X.clock (acts := []) hfr happ hPc trivial
  have hq' : vx_Q Qc XC mc ms free a (U.calling g mk a) o s₂ := hq
  rw [State.frames_setTop' g h.top] at hend
  obtain ⟨g₀, hg0⟩ := Option.isSome_iff_exists.mp h.top
  obtain ⟨r, hr⟩ := State.topJava?_eq_some.mp hg0
  have hr' : (({ U with heap := s₂.heap, slotsUsed := s₂.slotsUsed } : State).setVm s₂.vm).frames = .java g₀ :: r := hr
  rcases hq' with ⟨hqc, L, hfe, hL⟩ | ⟨q, rfl, E, ce, L, hx, hce, hcv, hcl, hW₂, hsm, hL⟩
  · obtain ⟨⟨v, rfl⟩, hW₂, e2, q2, q3, q4, q5, q6⟩ := id hfe
    have e3 : s₂ = ({ (U.calling g mk a).setFrames s₂.frames with heap := s₂.heap, slotsUsed := s₂.slotsUsed } : State).setVm s₂.vm := by
      have : s₂ = ({ s₂ with vm := (U.calling g mk a).vm } : State).setVm s₂.vm := rfl
      rw [e2] at this
      exact this
    obtain ⟨c₂, i₂, len₂, hc₂, hd₂, hf₂⟩ := hend
    have hW' : U.WarmedH s₂.vm := hW₂
    have hcc : c₂ = c := by
      have h1 : s₂.code? g.method = U.code? g.method := by
        rw [State.code?_eq, State.code?_eq, hW'.alike.method?]
      exact Option.some.inj (hc₂.symm.trans (h1.trans h.code))
    subst hcc
    have hlen : len₂ = len := by rw [hdg] at hd₂; cases hd₂; rfl
    subst hlen
    have hs₂ : s₂ = (({ U with heap := s₂.heap, slotsUsed := s₂.slotsUsed } : State).setVm s₂.vm).setTop { g with pc := g.pc + len₂, stack := v.toList ++ g.stack } := by
      refine e3.trans ?_
      rw [hf₂, State.calling_eq h.top, State.setFrames_setFrames, State.setTop_of_frames _ hr', hr]
      rfl
    have hsame : U.sameButNew ({ U with heap := s₂.heap, slotsUsed := s₂.slotsUsed } : State) L mc ms := by
      refine ⟨?_, q2, q3, q4, q5, q6⟩
      obtain ⟨t, ht, -⟩ := State.frames_cons hr
      show ({ U with heap := s₂.heap, slotsUsed := s₂.slotsUsed } : State) = { U.setFrames U.frames with heap := s₂.heap, slotsUsed := s₂.slotsUsed }
      rw [State.setFrames_self ht]
    subst hg
    refine Or.inl ⟨v, ⟨(({ U with heap := s₂.heap, slotsUsed := s₂.slotsUsed } : State).setVm s₂.vm), Ls ++ L, c0 + mc, s0 + ms⟩,
      ⟨X.admits, X.cas, X.clock, X.frames, X.room, X.hears, X.method, X.code, (X.here.setHeapUsed s₂.heap s₂.slotsUsed).setVm hW'.alike, X.tail, State.WarmedH.trans X.warmed hW', X.limits, X.bytes, X.same.trans (hsame.setVm s.vm)⟩,
      ⟨g, mk, s₂, L, rfl, rfl, hqc, rfl, hL, rfl, rfl⟩, ?_⟩
    show Steps p.tables e below _ ((({ U with heap := s₂.heap, slotsUsed := s₂.slotsUsed } : State).setVm s₂.vm).setTop { g with pc := g.pc + len₂, stack := v.toList ++ g.stack })
    rw [← hs₂]
    exact hsteps
  · obtain ⟨e2, q2, q3, q4, q5, q6⟩ := id hsm
    have e3 : s₂ = ({ (U.calling g mk a).setFrames s₂.frames with heap := s₂.heap, slotsUsed := s₂.slotsUsed } : State).setVm s₂.vm := by
      have : s₂ = ({ s₂ with vm := (U.calling g mk a).vm } : State).setVm s₂.vm := rfl
      rw [e2] at this
      exact this
    have hf₂ : s₂.frames = .throwing q :: .java g :: U.frames.tail := hend
    have hW' : U.WarmedH s₂.vm := hW₂
    have hs₂ : s₂ = ((({ U with heap := s₂.heap, slotsUsed := s₂.slotsUsed } : State).setVm s₂.vm).setTop g).pushFrame (.throwing q) := by
      refine e3.trans ?_
      rw [hf₂, State.calling_eq h.top, State.setFrames_setFrames, State.pushFrame, State.frames_setTop _ hr', State.setTop_of_frames _ hr', State.setFrames_setFrames, hr]
      rfl
    have hsame : U.sameButNew ({ U with heap := s₂.heap, slotsUsed := s₂.slotsUsed } : State) L mc ms := by
      refine ⟨?_, q2, q3, q4, q5, q6⟩
      obtain ⟨t, ht, -⟩ := State.frames_cons hr
      show ({ U with heap := s₂.heap, slotsUsed := s₂.slotsUsed } : State) = { U.setFrames U.frames with heap := s₂.heap, slotsUsed := s₂.slotsUsed }
      rw [State.setFrames_self ht]
    subst hg
    refine Or.inr ⟨q, ⟨(({ U with heap := s₂.heap, slotsUsed := s₂.slotsUsed } : State).setVm s₂.vm), Ls ++ L, c0 + mc, s0 + ms⟩,
      ⟨X.admits, X.cas, X.clock, X.frames, X.room, X.hears, X.method, X.code, (X.here.setHeapUsed s₂.heap s₂.slotsUsed).setVm hW'.alike, X.tail, State.WarmedH.trans X.warmed hW', X.limits, X.bytes, X.same.trans (hsame.setVm s.vm)⟩,
      ⟨g, mk, s₂, L, E, ce, rfl, rfl, hx, hce, hcv, hcl, rfl, hL, rfl, rfl⟩, ?_⟩
    show Steps p.tables e below _ (((({ U with heap := s₂.heap, slotsUsed := s₂.slotsUsed } : State).setVm s₂.vm).setTop g).pushFrame (.throwing q))
    rw [← hs₂]
    exact hsteps
end
variable {p : Program} {l : Launch} {e : Env} {R : Room} {s : State} {m : MethodId} {args : Array Value} {below : List Frame} {meth : Method} {c : Code} {T : State} {H : Heap} {locs : List Loc} {cells slots : Nat}
theorem vx_callVX (X : Stand p l e R s m args below meth c T locs cells slots) (hexec : p.tables.exec = Jvm.exec) {own C : String} {index : Nat} {y : MethodName} {bytes : ByteArray} {maxL : Nat} {ret : Option FieldType} {hh : List (Nat × Nat × Nat × Nat)}
    (hown : s.vm.findClass own = some m.cls) (hlink : (Cond.methodLink own index y).before args s = true) (hinst : (Cond.instanceMethod y).before args s = true) (hsel : (Cond.selects C y y).before args s = true)
    (hcode : (Cond.codeWith y bytes maxL ret hh).before args s = true) (hy : y.cls ≠ "java/lang/invoke/MethodHandle" ∧ y.cls ≠ "java/lang/invoke/VarHandle")
    {W9 : Nat} {Pre : Pt → Array Value → Prop} {Post : Pt → Array Value → Option Value → Pt → Prop} {PostX : Pt → Array Value → Addr → Pt → Prop} (hK : vx_Back l R p e below s args y 3 W9 Pre Post PostX)
    {b : Addr} {cellB : Cell} (hcell : T.heap[b]? = some cellB) (hobj : cellB.vm.isStatics = false) (hcls : s.vm.findClass C = some cellB.cls)
    {g : JFrame} (hg : g.method = m) (hsize : g.locals.size = c.maxLocals) {argsL rest : List Value} (hlen : ∀ sig, parseMethodDescriptor y.desc = some sig → argsL.length = sig.parameters.length)
    (hstack : g.stack = argsL.reverse ++ .ref b :: rest) (hW : 2 * g.monitorRoom + (rest.map fun v => v.category).sum ≤ W9) (hdg : decode c.code g.pc = .ok (.invokevirtual index, 3))
    (hpre : ∀ vm₁, s.WarmedH vm₁ → Pre ⟨T.setVm vm₁, locs, cells, slots⟩ (Value.ref b :: argsL).toArray) :
    (∃ (v : Option Value) (vm₁ : Vm) (B : Pt), s.WarmedH vm₁ ∧ Stand p l e R s m args below meth c B.U B.locs B.cells B.slots ∧ Post ⟨T.setVm vm₁, locs, cells, slots⟩ (Value.ref b :: argsL).toArray v B ∧
      ∀ target, Steps p.tables e below (B.U.setTop { g with pc := g.pc + 3, stack := v.toList ++ rest }) target → Steps p.tables e below (T.setTop g) target) ∨
    (∃ (q : Addr) (vm₁ : Vm) (B : Pt), s.WarmedH vm₁ ∧ Stand p l e R s m args below meth c B.U B.locs B.cells B.slots ∧ PostX ⟨T.setVm vm₁, locs, cells, slots⟩ (Value.ref b :: argsL).toArray q B ∧
      Steps p.tables e below (T.setTop g) ((B.U.setTop { g with stack := rest }).pushFrame (.throwing q))) := by
  obtain ⟨mk, methM, hnamed, hmethM, hstM, habM⟩ := Cond.instanceMethod_spec hinst
  obtain ⟨m8, methM', cM, hn8, hmethM', -, -, -, -, -, -, hsigM⟩ := Cond.codeWith_spec hcode
  cases Option.some.inj (hn8.symm.trans hnamed)
  cases hmethM.symm.trans hmethM'
  obtain ⟨c2, r2, m2, q1, q2, q3, q4, kP, hkP, hkPi⟩ := Cond.selects_spec hsel
  cases hcls.symm.trans q1
  cases (State.methodFound?_of_named hnamed hy).symm.trans q2
  cases hnamed.symm.trans q3
  have hselP : selectMethod e.platform s.vm cellB.cls mk = .method mk := by rw [Launch.admits_selectMethod X.admits]; exact q4
  obtain ⟨vm₁, X₁, hstep₁⟩ := X.invokevirtual hexec hown hlink hnamed hmethM hstM hkP hkPi hy (a := b) (cell := cellB) hcell
    (fun z h => by rw [h] at hobj; cases hobj) hselP hmethM habM hkP hkPi (g := g) hg (argsL := argsL) (rest := rest) (hlen _ hsigM) hstack hdg
  rcases hK m meth c ⟨T.setVm vm₁, locs, cells, slots⟩ { g with stack := rest } (.invokevirtual index) mk (Value.ref b :: argsL).toArray X₁ hg hsize hdg hW (X₁.named hnamed) (hpre vm₁ X₁.warmed) with ⟨v, B, X', hpost, hsteps⟩ | ⟨q, B, X', hpost, hsteps⟩
  · exact Or.inl ⟨v, vm₁, B, X₁.warmed, X', hpost, fun target h => hstep₁ _ fun acts => by rw [doInvoke_state]; exact hsteps.trans h⟩
  · exact Or.inr ⟨q, vm₁, B, X₁.warmed, X', hpost, hstep₁ _ fun acts => by rw [doInvoke_state]; exact hsteps⟩
theorem vx_callSX (X : Stand p l e R s m args below meth c T locs cells slots) (hexec : p.tables.exec = Jvm.exec) {own : String} {index : Nat} {y : MethodName} {bytes : ByteArray} {maxL : Nat} {ret : Option FieldType} {hh : List (Nat × Nat × Nat × Nat)}
    (hown : s.vm.findClass own = some m.cls) (hlink : (Cond.methodLink own index y).before args s = true) (hstat : (Cond.static y).before args s = true) (hinit : (Cond.initialized y.cls).before args s = true)
    (hcode : (Cond.codeWith y bytes maxL ret hh).before args s = true) (hy : y.cls ≠ "java/lang/invoke/MethodHandle" ∧ y.cls ≠ "java/lang/invoke/VarHandle")
    {W9 : Nat} {Pre : Pt → Array Value → Prop} {Post : Pt → Array Value → Option Value → Pt → Prop} {PostX : Pt → Array Value → Addr → Pt → Prop} (hK : vx_Back l R p e below s args y 3 W9 Pre Post PostX)
    {g : JFrame} (hg : g.method = m) (hsize : g.locals.size = c.maxLocals) {argsL rest : List Value} (hlen : ∀ sig, parseMethodDescriptor y.desc = some sig → argsL.length = sig.parameters.length)
    (hstack : g.stack = argsL.reverse ++ rest) (hW : 2 * g.monitorRoom + (rest.map fun v => v.category).sum ≤ W9) (hdg : decode c.code g.pc = .ok (.invokestatic index, 3))
    (hpre : ∀ vm₁, s.WarmedH vm₁ → Pre ⟨T.setVm vm₁, locs, cells, slots⟩ argsL.toArray) :
    (∃ (v : Option Value) (vm₁ : Vm) (B : Pt), s.WarmedH vm₁ ∧ Stand p l e R s m args below meth c B.U B.locs B.cells B.slots ∧ Post ⟨T.setVm vm₁, locs, cells, slots⟩ argsL.toArray v B ∧
      ∀ target, Steps p.tables e below (B.U.setTop { g with pc := g.pc + 3, stack := v.toList ++ rest }) target → Steps p.tables e below (T.setTop g) target) ∨
    (∃ (q : Addr) (vm₁ : Vm) (B : Pt), s.WarmedH vm₁ ∧ Stand p l e R s m args below meth c B.U B.locs B.cells B.slots ∧ PostX ⟨T.setVm vm₁, locs, cells, slots⟩ argsL.toArray q B ∧
      Steps p.tables e below (T.setTop g) ((B.U.setTop { g with stack := rest }).pushFrame (.throwing q))) := by
  obtain ⟨mk, methM, cM, hnamed, hmethM, -, -, -, -, -, -, hsigM⟩ := Cond.codeWith_spec hcode
  have hstatic : methM.isStatic = true := Cond.static_spec hnamed hmethM hstat
  obtain ⟨kP, hkP, -⟩ := className_of_methodNamed hnamed
  have hinitP : kP.init = .initialized := Cond.initialized_spec (findClass_of_methodNamed hnamed) hkP hinit
  obtain ⟨vm₁, X₁, hstep₁⟩ := X.invokestatic hexec hown hlink hnamed hmethM hstatic hkP hinitP hy (g := g) hg (argsL := argsL) (rest := rest) (hlen _ hsigM) hstack hdg
  rcases hK m meth c ⟨T.setVm vm₁, locs, cells, slots⟩ { g with stack := rest } (.invokestatic index) mk argsL.toArray X₁ hg hsize hdg hW (X₁.named hnamed) (hpre vm₁ X₁.warmed) with ⟨v, B, X', hpost, hsteps⟩ | ⟨q, B, X', hpost, hsteps⟩
  · exact Or.inl ⟨v, vm₁, B, X₁.warmed, X', hpost, fun target h => hstep₁ _ fun acts => by rw [doInvoke_state]; exact hsteps.trans h⟩
  · exact Or.inr ⟨q, vm₁, B, X₁.warmed, X', hpost, hstep₁ _ fun acts => by rw [doInvoke_state]; exact hsteps⟩
theorem vx_callVW (X : Stand p l e R s m args below meth c T locs cells slots) (hexec : p.tables.exec = Jvm.exec) {own C : String} {index : Nat} {y : MethodName} {bytes : ByteArray} {maxL : Nat} {ret : Option FieldType} {hh : List (Nat × Nat × Nat × Nat)}
    (hown : s.vm.findClass own = some m.cls) (hlink : (Cond.methodLink own index y).before args s = true) (hinst : (Cond.instanceMethod y).before args s = true) (hsel : (Cond.selects C y y).before args s = true)
    (hcode : (Cond.codeWith y bytes maxL ret hh).before args s = true) (hy : y.cls ≠ "java/lang/invoke/MethodHandle" ∧ y.cls ≠ "java/lang/invoke/VarHandle")
    {W9 : Nat} {Pre : Pt → Array Value → Prop} {Post : Pt → Array Value → Option Value → Pt → Prop} (hK : Back l R p e below s args y 3 W9 Pre Post)
    {b : Addr} {cellB : Cell} (hcell : T.heap[b]? = some cellB) (hobj : cellB.vm.isStatics = false) (hcls : s.vm.findClass C = some cellB.cls)
    {g : JFrame} (hg : g.method = m) (hsize : g.locals.size = c.maxLocals) {argsL rest : List Value} (hlen : ∀ sig, parseMethodDescriptor y.desc = some sig → argsL.length = sig.parameters.length)
    (hstack : g.stack = argsL.reverse ++ .ref b :: rest) (hW : 2 * g.monitorRoom + (rest.map fun v => v.category).sum ≤ W9) (hdg : decode c.code g.pc = .ok (.invokevirtual index, 3))
    (hpre : ∀ vm₁, s.WarmedH vm₁ → Pre ⟨T.setVm vm₁, locs, cells, slots⟩ (Value.ref b :: argsL).toArray) :
    ∃ (v : Option Value) (vm₁ : Vm) (B : Pt), s.WarmedH vm₁ ∧ Stand p l e R s m args below meth c B.U B.locs B.cells B.slots ∧ Post ⟨T.setVm vm₁, locs, cells, slots⟩ (Value.ref b :: argsL).toArray v B ∧
      ∀ target, Steps p.tables e below (B.U.setTop { g with pc := g.pc + 3, stack := v.toList ++ rest }) target → Steps p.tables e below (T.setTop g) target := by
  obtain ⟨mk, methM, hnamed, hmethM, hstM, habM⟩ := Cond.instanceMethod_spec hinst
  obtain ⟨m8, methM', cM, hn8, hmethM', -, -, -, -, -, -, hsigM⟩ := Cond.codeWith_spec hcode
  cases Option.some.inj (hn8.symm.trans hnamed)
  cases hmethM.symm.trans hmethM'
  obtain ⟨c2, r2, m2, q1, q2, q3, q4, kP, hkP, hkPi⟩ := Cond.selects_spec hsel
  cases hcls.symm.trans q1
  cases (State.methodFound?_of_named hnamed hy).symm.trans q2
  cases hnamed.symm.trans q3
  have hselP : selectMethod e.platform s.vm cellB.cls mk = .method mk := by rw [Launch.admits_selectMethod X.admits]; exact q4
  obtain ⟨vm₁, X₁, hstep₁⟩ := X.invokevirtual hexec hown hlink hnamed hmethM hstM hkP hkPi hy (a := b) (cell := cellB) hcell
    (fun z h => by rw [h] at hobj; cases hobj) hselP hmethM habM hkP hkPi (g := g) hg (argsL := argsL) (rest := rest) (hlen _ hsigM) hstack hdg
  obtain ⟨v, B, X', hpost, hsteps⟩ := hK m meth c ⟨T.setVm vm₁, locs, cells, slots⟩ { g with stack := rest } (.invokevirtual index) mk (Value.ref b :: argsL).toArray X₁ hg hsize hdg hW (X₁.named hnamed) (hpre vm₁ X₁.warmed)
  exact ⟨v, vm₁, B, X₁.warmed, X', hpost, fun target h => hstep₁ _ fun acts => by rw [doInvoke_state]; exact hsteps.trans h⟩
abbrev vx_CVW (R : Room) (s : State) (args : Array Value) (own C : String) (index : Nat) (y : MethodName) (bytes : ByteArray) (maxL : Nat) (ret : Option FieldType) (hh : List (Nat × Nat × Nat × Nat)) (ws : List Cond) (rm : Room) (mc ms n : Nat) : Prop :=
  (rm.cells = mc ∧ rm.slots = ms ∧ rm.frames + 1 ≤ R.frames ∧ 8 + (maxL + 11) + rm.locals ≤ R.locals ∧ (∀ w ∈ ws, ∀ (a' : Array Value) (U : State), s.WarmedH U.vm → w.before a' U = true) ∧ Cond.codeWith y bytes maxL ret hh ∈ ws) ∧
  (Cond.codeWith y bytes maxL ret hh).before args s = true ∧ (Cond.initialized y.cls).before args s = true ∧ (y.cls ≠ "java/lang/invoke/MethodHandle" ∧ y.cls ≠ "java/lang/invoke/VarHandle") ∧
  (∀ sig, parseMethodDescriptor y.desc = some sig → n = sig.parameters.length) ∧ (Cond.methodLink own index y).before args s = true ∧ (Cond.instanceMethod y).before args s = true ∧ (Cond.selects C y y).before args s = true
theorem vx_cwVW {own C : String} {index maxL mc ms : Nat} {y : MethodName} {bytes : ByteArray} {ret : Option FieldType} {hh : List (Nat × Nat × Nat × Nat)} {Ts ws ws' : List Cond} {rm : Room} (n : Nat) (ht : ∀ w ∈ Ts, w.before args s = true) (hT : GoodIn Ts (wsV own index C y ws)) (hw : ws = Cond.codeWith y bytes maxL ret hh :: ws') (hrc : rm.cells = mc) (hrs : rm.slots = ms)
    (hd : y.cls = C ∧ y.cls ≠ "java/lang/invoke/MethodHandle" ∧ y.cls ≠ "java/lang/invoke/VarHandle" ∧ (parseMethodDescriptor y.desc).map (fun d => d.parameters.length) = some n) (hR : rm.frames + 1 ≤ R.frames ∧ 8 + (maxL + 11) + rm.locals ≤ R.locals) :
    vx_CVW R s args own C index y bytes maxL ret hh ws rm mc ms n := by
  obtain ⟨hC, hd⟩ := hd
  subst hC
  have ok : ∀ w ∈ wsV own index y.cls y ws, w.before args s = true := fun w h => ht w (hT w h).1
  have hG : GoodIn Ts ws := fun w h => hT w (by unfold wsV; exact List.mem_append_right _ h)
  have hc : Cond.codeWith y bytes maxL ret hh ∈ ws := by rw [hw]; exact List.mem_cons_self
  refine ⟨⟨hrc, hrs, hR.1, hR.2, pay_in ht hG, hc⟩, ht _ (hG _ hc).1, ok _ (by simp [wsV]), ⟨hd.1, hd.2.1⟩, fun sig h => ?_, ok _ (by simp [wsV]), ok _ (by simp [wsV]), ok _ (by simp [wsV])⟩
  have h2 := hd.2.2
  rw [h] at h2
  exact (Option.some.inj h2).symm
theorem vx_runVW {y : MethodName} {bytes cc : ByteArray} {maxL nL mc ms n index : Nat} {ret : Option FieldType} {hh : List (Nat × Nat × Nat × Nat)} {ws : List Cond} {rm : Room} {Pc : Array Value → State → Prop} {Qc : Array Value → State → Outcome → State → Prop} {free : Addr → Prop} {Ts : List Cond} {own C : String} {b : Addr} {As rest : List Value} {g : JFrame}
    (S : CallFix p m c cc nL s args Ts own) (hM : Met l y ws rm Pc Qc mc ms free) (cw : vx_CVW R s args own C index y bytes maxL ret hh ws rm mc ms n) (hp : PreV s H C b Pc As)
    (hg : g.method = m) (hn : As.length = n) (hsize : g.locals.size = nL) (hstack : g.stack = As.reverse ++ .ref b :: rest) (hW : 2 * g.monitorRoom + (rest.map fun v => v.category).sum ≤ 8) (hdg : decode cc g.pc = .ok (.invokevirtual index, 3)) (hf : cells + mc ≤ R.cells ∧ slots + ms ≤ R.slots) :
    va_Run p l e R s m args below meth c H locs cells slots mc ms g rest (Qc (Value.ref b :: As).toArray) free := by
  obtain ⟨⟨hrc, hrs, hfr, hlo, hws, hcw⟩, hcode, hini, hy, hlen, hl, hin, hse⟩ := cw
  have hK : Back l R p e below s args y 3 8 (PreOf R mc ms Pc) (PostOf Qc mc ms free) := va_backW (hh := hh) (bytes := bytes) (maxL := maxL) (ret := ret) hM hp.1 hrc hrs hfr hlo hws hcw (fun a' U hW => word_at hW (Or.inl (by first | rfl | simp [Cond.onTables, Cond.keeps, Cond.steady])) hini)
  obtain ⟨hx, hb, hml, ho, -⟩ := S
  obtain ⟨-, ⟨cellB, hcB, hoB, hclB⟩, hPc⟩ := hp
  intro T hT X
  obtain ⟨v, vm₁, ⟨U', l2, c2, s2⟩, hW₁, X', ⟨g', mk, t, L, e1, e2, hq, h1, hL, h2, h3⟩, st⟩ := vx_callVW X hx (C := C) (hh := hh) (bytes := bytes) (maxL := maxL) (ret := ret) ho hl hin hse hcode hy hK (by rw [hT]; exact hcB) hoB hclB hg (hsize.trans hml.symm) (argsL := As) (rest := rest) (fun sig h => hn.trans (hlen sig h)) hstack hW (by rw [hb]; exact hdg)
    (fun vm₁ hW₁ => ⟨hf.1, hf.2, hPc (T.setVm vm₁) hT hW₁⟩)
  dsimp only [Pt.U, Pt.locs, Pt.cells, Pt.slots] at X' e1 e2 h1 h2 h3 st
  subst h1; subst h2; subst h3
  exact ⟨v, (T.setVm vm₁).calling g' mk (Value.ref b :: As).toArray, t, U', L, hT, X', hL, e1, e2, hq, st⟩
section
variable {y : MethodName} {bytes cc : ByteArray} {maxL nL mc ms n index : Nat} {ret : Option FieldType} {ws : List Cond} {rm : Room} {Pc : Array Value → State → Prop} {Qc : Array Value → State → Outcome → State → Prop} {XC : String → State → State → Prop} {free : Addr → Prop} {Ts : List Cond} {own C : String} {b : Addr} {As rest : List Value} {g : JFrame}
theorem vx_runVX {hh : List (Nat × Nat × Nat × Nat)} (S : CallFix p m c cc nL s args Ts own) (hM : vx_Met l y ws rm Pc Qc XC mc ms free) (cw : vx_CVW R s args own C index y bytes maxL ret hh ws rm mc ms n) (hp : PreV s H C b Pc As)
    (hg : g.method = m) (hn : As.length = n) (hsize : g.locals.size = nL) (hstack : g.stack = As.reverse ++ .ref b :: rest) (hW : 2 * g.monitorRoom + (rest.map fun v => v.category).sum ≤ 8) (hdg : decode cc g.pc = .ok (.invokevirtual index, 3)) (hf : cells + mc ≤ R.cells ∧ slots + ms ≤ R.slots) :
    vx_Run p l e R s m args below meth c H locs cells slots mc ms g rest (Qc (Value.ref b :: As).toArray) XC free := by
  obtain ⟨⟨hrc, hrs, hfr, hlo, hws, hcw⟩, hcode, hini, hy, hlen, hl, hin, hse⟩ := cw
  have hK : vx_Back l R p e below s args y 3 8 (PreOf R mc ms Pc) (PostOf Qc mc ms free) (vx_Post XC mc ms free) := vx_backW (hh := hh) (bytes := bytes) (maxL := maxL) (ret := ret) hM hp.1 hrc hrs hfr hlo hws hcw (fun a' U hW => word_at hW (Or.inl (by first | rfl | simp [Cond.onTables, Cond.keeps, Cond.steady])) hini)
  obtain ⟨hx, hb, hml, ho, -⟩ := S
  obtain ⟨-, ⟨cellB, hcB, hoB, hclB⟩, hPc⟩ := hp
  intro T hT X
  rcases vx_callVX X hx (C := C) (hh := hh) (bytes := bytes) (maxL := maxL) (ret := ret) ho hl hin hse hcode hy hK (by rw [hT]; exact hcB) hoB hclB hg (hsize.trans hml.symm) (argsL := As) (rest := rest) (fun sig h => hn.trans (hlen sig h)) hstack hW (by rw [hb]; exact hdg)
    (fun vm₁ hW₁ => ⟨hf.1, hf.2, hPc (T.setVm vm₁) hT hW₁⟩) with ⟨v, vm₁, ⟨U', l2, c2, s2⟩, hW₁, X', ⟨g', mk, t, L, e1, e2, hq, h1, hL, h2, h3⟩, st⟩ | ⟨q, vm₁, ⟨U', l2, c2, s2⟩, hW₁, X', ⟨g', mk, t, L, E, ce, e1, e2, hq, hce, hcv, hcl, h1, hL, h2, h3⟩, st⟩
  · dsimp only [Pt.U, Pt.locs, Pt.cells, Pt.slots] at X' e1 e2 h1 h2 h3 st
    subst h1; subst h2; subst h3
    exact Or.inl ⟨v, (T.setVm vm₁).calling g' mk (Value.ref b :: As).toArray, t, U', L, hT, X', hL, e1, e2, hq, st⟩
  · dsimp only [Pt.U, Pt.locs, Pt.cells, Pt.slots] at X' e1 e2 h1 h2 h3 st hcl
    subst h1; subst h2; subst h3
    exact Or.inr ⟨q, (T.setVm vm₁).calling g' mk (Value.ref b :: As).toArray, t, U', L, E, ce, hT, X', hL, e1, e2, hq, hce, hcv, vx_cls hW₁ hcl, st⟩
theorem vx_runSX {hh : List (Nat × Nat × Nat × Nat)} (S : CallFix p m c cc nL s args Ts own) (hM : vx_Met l y ws rm Pc Qc XC mc ms free) (cw : vx_CSW R s args own index y bytes maxL ret hh ws rm mc ms n) (hp : PreS s H Pc As)
    (hg : g.method = m) (hn : As.length = n) (hsize : g.locals.size = nL) (hstack : g.stack = As.reverse ++ rest) (hW : 2 * g.monitorRoom + (rest.map fun v => v.category).sum ≤ 8) (hdg : decode cc g.pc = .ok (.invokestatic index, 3)) (hf : cells + mc ≤ R.cells ∧ slots + ms ≤ R.slots) :
    vx_Run p l e R s m args below meth c H locs cells slots mc ms g rest (Qc As.toArray) XC free := by
  obtain ⟨⟨hrc, hrs, hfr, hlo, hws, hcw⟩, hcode, hini, hy, hlen, hl, hstt⟩ := cw
  have hK : vx_Back l R p e below s args y 3 8 (PreOf R mc ms Pc) (PostOf Qc mc ms free) (vx_Post XC mc ms free) := vx_backW (hh := hh) (bytes := bytes) (maxL := maxL) (ret := ret) hM hp.1 hrc hrs hfr hlo hws hcw (fun a' U hW => word_at hW (Or.inl (by first | rfl | simp [Cond.onTables, Cond.keeps, Cond.steady])) hini)
  obtain ⟨hx, hb, hml, ho, -⟩ := S
  intro T hT X
  rcases vx_callSX X hx (hh := hh) (bytes := bytes) (maxL := maxL) (ret := ret) ho hl hstt hini hcode hy hK hg (hsize.trans hml.symm) (argsL := As) (rest := rest) (fun sig h => hn.trans (hlen sig h)) hstack hW (by rw [hb]; exact hdg)
    (fun vm₁ hW₁ => ⟨hf.1, hf.2, hp.2 (T.setVm vm₁) hT hW₁⟩) with ⟨v, vm₁, ⟨U', l2, c2, s2⟩, hW₁, X', ⟨g', mk, t, L, e1, e2, hq, h1, hL, h2, h3⟩, st⟩ | ⟨q, vm₁, ⟨U', l2, c2, s2⟩, hW₁, X', ⟨g', mk, t, L, E, ce, e1, e2, hq, hce, hcv, hcl, h1, hL, h2, h3⟩, st⟩
  · dsimp only [Pt.U, Pt.locs, Pt.cells, Pt.slots] at X' e1 e2 h1 h2 h3 st
    subst h1; subst h2; subst h3
    exact Or.inl ⟨v, (T.setVm vm₁).calling g' mk As.toArray, t, U', L, hT, X', hL, e1, e2, hq, st⟩
  · dsimp only [Pt.U, Pt.locs, Pt.cells, Pt.slots] at X' e1 e2 h1 h2 h3 st hcl
    subst h1; subst h2; subst h3
    exact Or.inr ⟨q, (T.setVm vm₁).calling g' mk As.toArray, t, U', L, E, ce, hT, X', hL, e1, e2, hq, hce, hcv, vx_cls hW₁ hcl, st⟩
end
end VXH
theorem vx_ofWH {l : Launch} {y : MethodName} {ws ws' : List Cond} {rm : Room} {Pc : Array Value → State → Prop} {Qc : Array Value → State → Outcome → State → Prop} {XC : String → State → State → Prop} {mc ms : Nat} {free : Addr → Prop} {cc : ByteArray} {maxL : Nat} {ret : Option FieldType} {hh : List (Nat × Nat × Nat × Nat)}
    (hy : plainName y.cls = true) (hw : ws = Cond.codeWith y cc maxL ret hh :: ws')
    (body : ∀ p e s m args below meth c s₁, BodyLoose p l y (headSpec ws rm) cc maxL ret e s m args below meth c s₁ → c.maxLocals = maxL → Pc args s →
      W p l e (headSpec ws rm).room s m args below meth c s.heap [] 0 0 (vx_MQ below Qc XC args s mc ms free) (entryFrame m args maxL)) : vx_Met l y ws rm Pc Qc XC mc ms free := by
  refine MetFree.of_bodyS (code := cc) (maxLocals := maxL) (ret := ret) hy ?_ ?_
  · intro args s m h hn
    obtain ⟨m9, meth, c, hn9, h1, h2, h3, h4, -, h5, h6, -⟩ := Cond.codeWith_spec (atoms_spec (ws := ws) h _ (by rw [hw]; exact List.mem_cons_self))
    cases hn.symm.trans hn9
    exact ⟨meth, c, h1, h2, h3, h4, h5, h6⟩
  · intro p e s m args below meth c s₁ B hml hP _
    have hh0 : s₁.heap = s.heap := by rw [B.state]; rfl
    obtain ⟨t, a1, o, b1, b2, b3⟩ := body p e s m args below meth c s₁ B hml hP s₁ hh0 (Stand.of_body B)
    exact ⟨t, o, a1, b1, b2, b3⟩
/-! ===== END ===== -/
end
section
/-! ===== BEGIN printed: names, fields, word lists, decode rows ===== -/
def RX0 : String := "Tetherline$Floor"
def TX0 : u_T := fun k => match k with
  | 0 => ("Tetherline$Floor", "columns", "I", true)
  | 1 => ("Tetherline$Floor", "rows", "I", true)
  | 2 => ("Tetherline$Floor", "pillarNumbers", "[I", true)
  | _ => ("Tetherline$Floor", "pillars", "I", false)
def tyX0 : Nat → FieldType := fun k => match k with
  | 0 => .int
  | 1 => .int
  | 2 => .array .int
  | _ => .int
abbrev wsX00 : List Cond := u_ws RX0 TX0 4
theorem nmX0 : ∀ a, a < 4 → ∀ b, b < 4 → a ≠ b → (TX0 a).2.1 ≠ (TX0 b).2.1 := by decide +kernel
theorem tyX0_ok : ∀ k, k < 4 → parseFieldDescriptor (TX0 k).2.2.1 = some (tyX0 k) := by decide +kernel
abbrev cX0_init : ByteArray := prog_2_method_1_code
def yX0_init : MethodName := ⟨RX0, "<init>", "(II)V"⟩
abbrev cX0_has : ByteArray := prog_2_method_2_code
def yX0_has : MethodName := ⟨RX0, "has", "(II)Z"⟩
abbrev cX0_isFull : ByteArray := prog_2_method_3_code
def yX0_isFull : MethodName := ⟨RX0, "isFull", "()Z"⟩
abbrev cX0_isPillar : ByteArray := prog_2_method_4_code
def yX0_isPillar : MethodName := ⟨RX0, "isPillar", "(I)Z"⟩
abbrev cX0_setPillar : ByteArray := prog_2_method_5_code
def yX0_setPillar : MethodName := ⟨RX0, "setPillar", "(I)I"⟩
abbrev cX0_after : ByteArray := prog_2_method_6_code
def yX0_after : MethodName := ⟨RX0, "after", "(II)I"⟩
abbrev cX0_placeAt : ByteArray := prog_2_method_7_code
def yX0_placeAt : MethodName := ⟨RX0, "placeAt", "(III)I"⟩
abbrev cX0_wordToTheRight : ByteArray := prog_2_method_8_code
def yX0_wordToTheRight : MethodName := ⟨RX0, "wordToTheRight", "(III)I"⟩
abbrev cX0_wordToTheLeft : ByteArray := prog_2_method_9_code
def yX0_wordToTheLeft : MethodName := ⟨RX0, "wordToTheLeft", "(III)I"⟩
abbrev cX0_pillarNumberOf : ByteArray := prog_2_method_10_code
def yX0_pillarNumberOf : MethodName := ⟨RX0, "pillarNumberOf", "(I)I"⟩
def RX1 : String := "Tetherline$Spread"
def TX1 : u_T := fun k => match k with
  | 0 => ("Tetherline$Spread", "distances", "[I", true)
  | 1 => ("Tetherline$Spread", "reached", "[I", true)
  | _ => ("Tetherline$Spread", "count", "I", false)
def tyX1 : Nat → FieldType := fun k => match k with
  | 0 => .array .int
  | 1 => .array .int
  | _ => .int
abbrev wsX10 : List Cond := u_ws RX1 TX1 3
theorem nmX1 : ∀ a, a < 3 → ∀ b, b < 3 → a ≠ b → (TX1 a).2.1 ≠ (TX1 b).2.1 := by decide +kernel
theorem tyX1_ok : ∀ k, k < 3 → parseFieldDescriptor (TX1 k).2.2.1 = some (tyX1 k) := by decide +kernel
abbrev cX1_init : ByteArray := prog_3_method_1_code
def yX1_init : MethodName := ⟨RX1, "<init>", "()V"⟩
abbrev cX1_begin : ByteArray := prog_3_method_2_code
def yX1_begin : MethodName := ⟨RX1, "begin", "(I)V"⟩
abbrev cX1_reach : ByteArray := prog_3_method_3_code
def yX1_reach : MethodName := ⟨RX1, "reach", "(II)V"⟩
abbrev cX1_count : ByteArray := prog_3_method_4_code
def yX1_count : MethodName := ⟨RX1, "count", "()I"⟩
abbrev cX1_placeAt : ByteArray := prog_3_method_5_code
def yX1_placeAt : MethodName := ⟨RX1, "placeAt", "(I)I"⟩
abbrev cX1_distanceOf : ByteArray := prog_3_method_6_code
def yX1_distanceOf : MethodName := ⟨RX1, "distanceOf", "(I)I"⟩
abbrev cX1_add : ByteArray := prog_3_method_7_code
def yX1_add : MethodName := ⟨RX1, "add", "(II)V"⟩
def RX2 : String := "Tetherline"
def TX2 : u_T := fun k => match k with
  | 0 => ("Tetherline", "floor", "LTetherline$Floor;", true)
  | 1 => ("Tetherline", "limit", "I", true)
  | 2 => ("Tetherline", "lengths", "LTetherline$Spread;", true)
  | 3 => ("Tetherline", "ways", "LTetherline$Spread;", true)
  | 4 => ("Tetherline", "base", "I", false)
  | 5 => ("Tetherline", "place", "I", false)
  | _ => ("Tetherline", "stepsMade", "I", false)
def tyX2 : Nat → FieldType := fun k => match k with
  | 0 => .object "Tetherline$Floor"
  | 1 => .int
  | 2 => .object "Tetherline$Spread"
  | 3 => .object "Tetherline$Spread"
  | 4 => .int
  | 5 => .int
  | _ => .int
abbrev wsX20 : List Cond := u_ws RX2 TX2 7
theorem nmX2 : ∀ a, a < 7 → ∀ b, b < 7 → a ≠ b → (TX2 a).2.1 ≠ (TX2 b).2.1 := by decide +kernel
theorem tyX2_ok : ∀ k, k < 7 → parseFieldDescriptor (TX2 k).2.2.1 = some (tyX2 k) := by decide +kernel
abbrev cX2_init : ByteArray := prog_1_method_1_code
def yX2_init : MethodName := ⟨RX2, "<init>", "(III)V"⟩
abbrev cX2_pillar : ByteArray := prog_1_method_2_code
def yX2_pillar : MethodName := ⟨RX2, "pillar", "(II)I"⟩
abbrev cX2_base : ByteArray := prog_1_method_3_code
def yX2_base : MethodName := ⟨RX2, "base", "(II)V"⟩
abbrev cX2_step : ByteArray := prog_1_method_4_code
def yX2_step : MethodName := ⟨RX2, "step", "(I)I"⟩
abbrev cX2_go : ByteArray := prog_1_method_5_code
def yX2_go : MethodName := ⟨RX2, "go", "(II)I"⟩
abbrev cX2_back : ByteArray := prog_1_method_6_code
def yX2_back : MethodName := ⟨RX2, "back", "(I)I"⟩
abbrev cX2_column : ByteArray := prog_1_method_7_code
def yX2_column : MethodName := ⟨RX2, "column", "()I"⟩
abbrev cX2_row : ByteArray := prog_1_method_8_code
def yX2_row : MethodName := ⟨RX2, "row", "()I"⟩
abbrev cX2_letters : ByteArray := prog_1_method_9_code
def yX2_letters : MethodName := ⟨RX2, "letters", "()I"⟩
abbrev cX2_letterAt : ByteArray := prog_1_method_10_code
def yX2_letterAt : MethodName := ⟨RX2, "letterAt", "(I)I"⟩
abbrev cX2_length : ByteArray := prog_1_method_11_code
def yX2_length : MethodName := ⟨RX2, "length", "()I"⟩
abbrev cX2_slack : ByteArray := prog_1_method_12_code
def yX2_slack : MethodName := ⟨RX2, "slack", "()I"⟩
abbrev cX2_steps : ByteArray := prog_1_method_13_code
def yX2_steps : MethodName := ⟨RX2, "steps", "()I"⟩
abbrev cX2_lengthByTrying : ByteArray := prog_1_method_14_code
def yX2_lengthByTrying : MethodName := ⟨RX2, "lengthByTrying", "(I)I"⟩
abbrev cX2_cableAt : ByteArray := prog_1_method_15_code
def yX2_cableAt : MethodName := ⟨RX2, "cableAt", "(I)I"⟩
abbrev cX2_bends : ByteArray := prog_1_method_16_code
def yX2_bends : MethodName := ⟨RX2, "bends", "()I"⟩
abbrev cX2_least : ByteArray := prog_1_method_17_code
def yX2_least : MethodName := ⟨RX2, "least", "(II)I"⟩
abbrev cX2_missing : ByteArray := prog_1_method_18_code
def yX2_missing : MethodName := ⟨RX2, "missing", "(II)I"⟩
abbrev cX2_words : ByteArray := prog_1_method_19_code
def yX2_words : MethodName := ⟨RX2, "words", "(II)I"⟩
abbrev cX2_squares : ByteArray := prog_1_method_20_code
def yX2_squares : MethodName := ⟨RX2, "squares", "()I"⟩
abbrev cX2_measureLengths : ByteArray := prog_1_method_21_code
def yX2_measureLengths : MethodName := ⟨RX2, "measureLengths", "()V"⟩
abbrev cX2_nearestPlaceOf : ByteArray := prog_1_method_22_code
def yX2_nearestPlaceOf : MethodName := ⟨RX2, "nearestPlaceOf", "(I)I"⟩
abbrev cX2_afterStep : ByteArray := prog_1_method_23_code
def yX2_afterStep : MethodName := ⟨RX2, "afterStep", "(II)I"⟩
abbrev cX2_isWithinLimit : ByteArray := prog_1_method_24_code
def yX2_isWithinLimit : MethodName := ⟨RX2, "isWithinLimit", "(I)Z"⟩
abbrev cX2_leastLengthOf : ByteArray := prog_1_method_25_code
def yX2_leastLengthOf : MethodName := ⟨RX2, "leastLengthOf", "(I)I"⟩
abbrev cX2_alongCable : ByteArray := prog_1_method_26_code
def yX2_alongCable : MethodName := ⟨RX2, "alongCable", "(I)I"⟩
abbrev cX2_cableDirection : ByteArray := prog_1_method_27_code
def yX2_cableDirection : MethodName := ⟨RX2, "cableDirection", "(I)I"⟩
abbrev cX2_fewestByTrying : ByteArray := prog_1_method_28_code
def yX2_fewestByTrying : MethodName := ⟨RX2, "fewestByTrying", "(LTetherline$Floor;IIII)I"⟩
abbrev cX2_requireSquare : ByteArray := prog_1_method_29_code
def yX2_requireSquare : MethodName := ⟨RX2, "requireSquare", "(II)V"⟩
abbrev cX2_between : ByteArray := prog_1_method_30_code
def yX2_between : MethodName := ⟨RX2, "between", "(III)I"⟩
abbrev cX2_squareAt : ByteArray := prog_1_method_31_code
def yX2_squareAt : MethodName := ⟨RX2, "squareAt", "(II)I"⟩
abbrev cX2_columnOf : ByteArray := prog_1_method_32_code
def yX2_columnOf : MethodName := ⟨RX2, "columnOf", "(I)I"⟩
abbrev cX2_rowOf : ByteArray := prog_1_method_33_code
def yX2_rowOf : MethodName := ⟨RX2, "rowOf", "(I)I"⟩
abbrev cX2_apart : ByteArray := prog_1_method_34_code
def yX2_apart : MethodName := ⟨RX2, "apart", "(II)I"⟩
abbrev cX2_placeOf : ByteArray := prog_1_method_35_code
def yX2_placeOf : MethodName := ⟨RX2, "placeOf", "(II)I"⟩
abbrev cX2_squareOf : ByteArray := prog_1_method_36_code
def yX2_squareOf : MethodName := ⟨RX2, "squareOf", "(I)I"⟩
abbrev cX2_wordOf : ByteArray := prog_1_method_37_code
def yX2_wordOf : MethodName := ⟨RX2, "wordOf", "(I)I"⟩
abbrev cX2_lettersOf : ByteArray := prog_1_method_38_code
def yX2_lettersOf : MethodName := ⟨RX2, "lettersOf", "(I)I"⟩
abbrev cX2_lastLetterOf : ByteArray := prog_1_method_39_code
def yX2_lastLetterOf : MethodName := ⟨RX2, "lastLetterOf", "(I)I"⟩
abbrev cX2_oppositeOf : ByteArray := prog_1_method_40_code
def yX2_oppositeOf : MethodName := ⟨RX2, "oppositeOf", "(I)I"⟩
abbrev cX2_withLetter : ByteArray := prog_1_method_41_code
def yX2_withLetter : MethodName := ⟨RX2, "withLetter", "(II)I"⟩
def RX3 : String := "TetherlineModel"
def TX3 : u_T := fun k => match k with
  | 0 => ("TetherlineModel", "thrown", "I", false)
  | 1 => ("TetherlineModel", "columns", "I", true)
  | 2 => ("TetherlineModel", "rows", "I", true)
  | 3 => ("TetherlineModel", "limit", "I", true)
  | 4 => ("TetherlineModel", "pillars", "I", false)
  | 5 => ("TetherlineModel", "pillarColumns", "[I", true)
  | 6 => ("TetherlineModel", "pillarRows", "[I", true)
  | 7 => ("TetherlineModel", "base", "I", false)
  | 8 => ("TetherlineModel", "square", "I", false)
  | 9 => ("TetherlineModel", "word", "I", false)
  | 10 => ("TetherlineModel", "steps", "I", false)
  | 11 => ("TetherlineModel", "lengths", "[I", true)
  | 12 => ("TetherlineModel", "queue", "[I", true)
  | _ => ("TetherlineModel", "before", "[I", true)
def tyX3 : Nat → FieldType := fun k => match k with
  | 0 => .int
  | 1 => .int
  | 2 => .int
  | 3 => .int
  | 4 => .int
  | 5 => .array .int
  | 6 => .array .int
  | 7 => .int
  | 8 => .int
  | 9 => .int
  | 10 => .int
  | 11 => .array .int
  | 12 => .array .int
  | _ => .array .int
abbrev wsX30 : List Cond := u_ws RX3 TX3 14
theorem nmX3 : ∀ a, a < 14 → ∀ b, b < 14 → a ≠ b → (TX3 a).2.1 ≠ (TX3 b).2.1 := by decide +kernel
theorem tyX3_ok : ∀ k, k < 14 → parseFieldDescriptor (TX3 k).2.2.1 = some (tyX3 k) := by decide +kernel
abbrev cX3_init : ByteArray := prog_5_method_1_code
def yX3_init : MethodName := ⟨RX3, "<init>", "(III)V"⟩
abbrev cX3_bounded : ByteArray := prog_5_method_2_code
def yX3_bounded : MethodName := ⟨RX3, "bounded", "(III)I"⟩
abbrev cX3_thrown : ByteArray := prog_5_method_3_code
def yX3_thrown : MethodName := ⟨RX3, "thrown", "()I"⟩
abbrev cX3_holds : ByteArray := prog_5_method_4_code
def yX3_holds : MethodName := ⟨RX3, "holds", "(I)Z"⟩
abbrev cX3_in : ByteArray := prog_5_method_5_code
def yX3_in : MethodName := ⟨RX3, "in", "(III)Z"⟩
abbrev cX3_isSquare : ByteArray := prog_5_method_6_code
def yX3_isSquare : MethodName := ⟨RX3, "isSquare", "(II)Z"⟩
abbrev cX3_squareOf : ByteArray := prog_5_method_7_code
def yX3_squareOf : MethodName := ⟨RX3, "squareOf", "(II)I"⟩
abbrev cX3_isPillar : ByteArray := prog_5_method_8_code
def yX3_isPillar : MethodName := ⟨RX3, "isPillar", "(I)Z"⟩
abbrev cX3_joined : ByteArray := prog_5_method_9_code
def yX3_joined : MethodName := ⟨RX3, "joined", "(II)I"⟩
abbrev cX3_size : ByteArray := prog_5_method_10_code
def yX3_size : MethodName := ⟨RX3, "size", "(I)I"⟩
abbrev cX3_pillarBelow : ByteArray := prog_5_method_11_code
def yX3_pillarBelow : MethodName := ⟨RX3, "pillarBelow", "(II)I"⟩
abbrev cX3_pillarAbove : ByteArray := prog_5_method_12_code
def yX3_pillarAbove : MethodName := ⟨RX3, "pillarAbove", "(III)I"⟩
abbrev cX3_goesRight : ByteArray := prog_5_method_13_code
def yX3_goesRight : MethodName := ⟨RX3, "goesRight", "(III)I"⟩
abbrev cX3_goesLeft : ByteArray := prog_5_method_14_code
def yX3_goesLeft : MethodName := ⟨RX3, "goesLeft", "(III)I"⟩
abbrev cX3_after : ByteArray := prog_5_method_15_code
def yX3_after : MethodName := ⟨RX3, "after", "(II)I"⟩
abbrev cX3_searches : ByteArray := prog_5_method_16_code
def yX3_searches : MethodName := ⟨RX3, "searches", "()V"⟩
abbrev cX3_place : ByteArray := prog_5_method_17_code
def yX3_place : MethodName := ⟨RX3, "place", "()I"⟩
abbrev cX3_puts : ByteArray := prog_5_method_18_code
def yX3_puts : MethodName := ⟨RX3, "puts", "(I)V"⟩
abbrev cX3_pillar : ByteArray := prog_5_method_19_code
def yX3_pillar : MethodName := ⟨RX3, "pillar", "(II)I"⟩
abbrev cX3_base : ByteArray := prog_5_method_20_code
def yX3_base : MethodName := ⟨RX3, "base", "(II)V"⟩
abbrev cX3_isAble : ByteArray := prog_5_method_21_code
def yX3_isAble : MethodName := ⟨RX3, "isAble", "(I)Z"⟩
abbrev cX3_step : ByteArray := prog_5_method_22_code
def yX3_step : MethodName := ⟨RX3, "step", "(I)I"⟩
abbrev cX3_sought : ByteArray := prog_5_method_23_code
def yX3_sought : MethodName := ⟨RX3, "sought", "(I)I"⟩
abbrev cX3_go : ByteArray := prog_5_method_24_code
def yX3_go : MethodName := ⟨RX3, "go", "(II)I"⟩
abbrev cX3_along : ByteArray := prog_5_method_25_code
def yX3_along : MethodName := ⟨RX3, "along", "(I)I"⟩
abbrev cX3_back : ByteArray := prog_5_method_26_code
def yX3_back : MethodName := ⟨RX3, "back", "(I)I"⟩
abbrev cX3_column : ByteArray := prog_5_method_27_code
def yX3_column : MethodName := ⟨RX3, "column", "()I"⟩
abbrev cX3_row : ByteArray := prog_5_method_28_code
def yX3_row : MethodName := ⟨RX3, "row", "()I"⟩
abbrev cX3_letters : ByteArray := prog_5_method_29_code
def yX3_letters : MethodName := ⟨RX3, "letters", "()I"⟩
abbrev cX3_letterAt : ByteArray := prog_5_method_30_code
def yX3_letterAt : MethodName := ⟨RX3, "letterAt", "(I)I"⟩
abbrev cX3_length : ByteArray := prog_5_method_31_code
def yX3_length : MethodName := ⟨RX3, "length", "()I"⟩
abbrev cX3_slack : ByteArray := prog_5_method_32_code
def yX3_slack : MethodName := ⟨RX3, "slack", "()I"⟩
abbrev cX3_steps : ByteArray := prog_5_method_33_code
def yX3_steps : MethodName := ⟨RX3, "steps", "()I"⟩
abbrev cX3_lengthByTrying : ByteArray := prog_5_method_34_code
def yX3_lengthByTrying : MethodName := ⟨RX3, "lengthByTrying", "(I)I"⟩
abbrev cX3_cableAt : ByteArray := prog_5_method_35_code
def yX3_cableAt : MethodName := ⟨RX3, "cableAt", "(I)I"⟩
abbrev cX3_bends : ByteArray := prog_5_method_36_code
def yX3_bends : MethodName := ⟨RX3, "bends", "()I"⟩
abbrev cX3_leastOf : ByteArray := prog_5_method_37_code
def yX3_leastOf : MethodName := ⟨RX3, "leastOf", "(I)I"⟩
abbrev cX3_least : ByteArray := prog_5_method_38_code
def yX3_least : MethodName := ⟨RX3, "least", "(II)I"⟩
abbrev cX3_missing : ByteArray := prog_5_method_39_code
def yX3_missing : MethodName := ⟨RX3, "missing", "(II)I"⟩
abbrev cX3_words : ByteArray := prog_5_method_40_code
def yX3_words : MethodName := ⟨RX3, "words", "(II)I"⟩
abbrev cX3_squares : ByteArray := prog_5_method_41_code
def yX3_squares : MethodName := ⟨RX3, "squares", "()I"⟩
def RJx145de : String := "java/io/Serializable"
def TJx145de : u_T := fun k => match k with
  | _ => ("", "", "", false)
def tyJx145de : Nat → FieldType := fun k => match k with
  | _ => .int
abbrev wsJx145de0 : List Cond := u_ws RJx145de TJx145de 0
theorem nmJx145de : ∀ a, a < 0 → ∀ b, b < 0 → a ≠ b → (TJx145de a).2.1 ≠ (TJx145de b).2.1 := by decide +kernel
theorem tyJx145de_ok : ∀ k, k < 0 → parseFieldDescriptor (TJx145de k).2.2.1 = some (tyJx145de k) := by decide +kernel
def RJ9 : String := "java/lang/Math"
def TJ9 : u_T := fun k => match k with
  | _ => ("", "", "", false)
def tyJ9 : Nat → FieldType := fun k => match k with
  | _ => .int
abbrev wsJ90 : List Cond := u_ws RJ9 TJ9 0
theorem nmJ9 : ∀ a, a < 0 → ∀ b, b < 0 → a ≠ b → (TJ9 a).2.1 ≠ (TJ9 b).2.1 := by decide +kernel
theorem tyJ9_ok : ∀ k, k < 0 → parseFieldDescriptor (TJ9 k).2.2.1 = some (tyJ9 k) := by decide +kernel
abbrev cJ9_abs_0f7a4 : ByteArray := prog_11_method_59_code
def yJ9_abs_0f7a4 : MethodName := ⟨RJ9, "abs", "(I)I"⟩
abbrev cJ9_max_7cf53 : ByteArray := prog_11_method_65_code
def yJ9_max_7cf53 : MethodName := ⟨RJ9, "max", "(II)I"⟩
abbrev cJ9_min_7cf53 : ByteArray := prog_11_method_69_code
def yJ9_min_7cf53 : MethodName := ⟨RJ9, "min", "(II)I"⟩
def RJ0 : String := "java/lang/String"
def TJ0 : u_T := fun k => match k with
  | _ => ("", "", "", false)
def tyJ0 : Nat → FieldType := fun k => match k with
  | _ => .int
abbrev wsJ00 : List Cond := u_ws RJ0 TJ0 0
theorem nmJ0 : ∀ a, a < 0 → ∀ b, b < 0 → a ≠ b → (TJ0 a).2.1 ≠ (TJ0 b).2.1 := by decide +kernel
theorem tyJ0_ok : ∀ k, k < 0 → parseFieldDescriptor (TJ0 k).2.2.1 = some (tyJ0 k) := by decide +kernel
def RJ7 : String := "java/util/Arrays"
def TJ7 : u_T := fun k => match k with
  | _ => ("", "", "", false)
def tyJ7 : Nat → FieldType := fun k => match k with
  | _ => .int
abbrev wsJ70 : List Cond := u_ws RJ7 TJ7 0
theorem nmJ7 : ∀ a, a < 0 → ∀ b, b < 0 → a ≠ b → (TJ7 a).2.1 ≠ (TJ7 b).2.1 := by decide +kernel
theorem tyJ7_ok : ∀ k, k < 0 → parseFieldDescriptor (TJ7 k).2.2.1 = some (tyJ7 k) := by decide +kernel
abbrev cJ7_fill_53178 : ByteArray := prog_15_method_103_code
def yJ7_fill_53178 : MethodName := ⟨RJ7, "fill", "([II)V"⟩
def RL : String := "TetherlineLaw"
abbrev cL_cell : ByteArray := method_2_code
def yL_cell : MethodName := ⟨RL, "cell", "([II)I"⟩
abbrev cL_pillar : ByteArray := method_3_code
def yL_pillar : MethodName := ⟨RL, "pillar", "(LTetherline;II[J)I"⟩
abbrev cL_base : ByteArray := method_4_code
def yL_base : MethodName := ⟨RL, "base", "(LTetherline;II)I"⟩
abbrev cL_step : ByteArray := method_5_code
def yL_step : MethodName := ⟨RL, "step", "(LTetherline;I[J)I"⟩
abbrev cL_go : ByteArray := method_6_code
def yL_go : MethodName := ⟨RL, "go", "(LTetherline;II[J)I"⟩
abbrev cL_back : ByteArray := method_7_code
def yL_back : MethodName := ⟨RL, "back", "(LTetherline;I[J)I"⟩
abbrev cL_letterAt : ByteArray := method_8_code
def yL_letterAt : MethodName := ⟨RL, "letterAt", "(LTetherline;I[J)I"⟩
abbrev cL_lengthByTrying : ByteArray := method_9_code
def yL_lengthByTrying : MethodName := ⟨RL, "lengthByTrying", "(LTetherline;I[J)I"⟩
abbrev cL_cableAt : ByteArray := method_10_code
def yL_cableAt : MethodName := ⟨RL, "cableAt", "(LTetherline;I[J)I"⟩
abbrev cL_least : ByteArray := method_11_code
def yL_least : MethodName := ⟨RL, "least", "(LTetherline;II[J)I"⟩
abbrev cL_missing : ByteArray := method_12_code
def yL_missing : MethodName := ⟨RL, "missing", "(LTetherline;II[J)I"⟩
abbrev cL_words : ByteArray := method_13_code
def yL_words : MethodName := ⟨RL, "words", "(LTetherline;II[J)I"⟩
abbrev cL_law : ByteArray := code
def yL_law : MethodName := ⟨RL, "law", "([I)Z"⟩
abbrev vwCl : List vw_C := [(RX0, TX0, 4), (RX1, TX1, 3), (RX2, TX2, 7), (RX3, TX3, 14)]
end
section
theorem dX0_init_0 : decode cX0_init 0 = .ok (.aload_n 0, 1) := by decide +kernel
theorem dX0_init_1 : decode cX0_init 1 = .ok (.invokespecial 3, 3) := by decide +kernel
theorem dX0_init_4 : decode cX0_init 4 = .ok (.aload_n 0, 1) := by decide +kernel
theorem dX0_init_5 : decode cX0_init 5 = .ok (.bipush 49, 2) := by decide +kernel
theorem dX0_init_7 : decode cX0_init 7 = .ok (.newarray .int, 2) := by decide +kernel
theorem dX0_init_9 : decode cX0_init 9 = .ok (.putfield 9, 3) := by decide +kernel
theorem dX0_init_12 : decode cX0_init 12 = .ok (.aload_n 0, 1) := by decide +kernel
theorem dX0_init_13 : decode cX0_init 13 = .ok (.iload_n 1, 1) := by decide +kernel
theorem dX0_init_14 : decode cX0_init 14 = .ok (.putfield 15, 3) := by decide +kernel
theorem dX0_init_17 : decode cX0_init 17 = .ok (.aload_n 0, 1) := by decide +kernel
theorem dX0_init_18 : decode cX0_init 18 = .ok (.iload_n 2, 1) := by decide +kernel
theorem dX0_init_19 : decode cX0_init 19 = .ok (.putfield 19, 3) := by decide +kernel
theorem dX0_init_22 : decode cX0_init 22 = .ok (.aload_n 0, 1) := by decide +kernel
theorem dX0_init_23 : decode cX0_init 23 = .ok (.getfield 9, 3) := by decide +kernel
theorem dX0_init_26 : decode cX0_init 26 = .ok (.iconst (-1), 1) := by decide +kernel
theorem dX0_init_27 : decode cX0_init 27 = .ok (.invokestatic 22, 3) := by decide +kernel
theorem dX0_init_30 : decode cX0_init 30 = .ok (.return_, 1) := by decide +kernel
theorem dX0_has_0 : decode cX0_has 0 = .ok (.iload_n 1, 1) := by decide +kernel
theorem dX0_has_1 : decode cX0_has 1 = .ok (.ifCond .lt 27, 3) := by decide +kernel
theorem dX0_has_4 : decode cX0_has 4 = .ok (.iload_n 1, 1) := by decide +kernel
theorem dX0_has_5 : decode cX0_has 5 = .ok (.aload_n 0, 1) := by decide +kernel
theorem dX0_has_6 : decode cX0_has 6 = .ok (.getfield 15, 3) := by decide +kernel
theorem dX0_has_9 : decode cX0_has 9 = .ok (.if_icmp .ge 19, 3) := by decide +kernel
theorem dX0_has_12 : decode cX0_has 12 = .ok (.iload_n 2, 1) := by decide +kernel
theorem dX0_has_13 : decode cX0_has 13 = .ok (.ifCond .lt 15, 3) := by decide +kernel
theorem dX0_has_16 : decode cX0_has 16 = .ok (.iload_n 2, 1) := by decide +kernel
theorem dX0_has_17 : decode cX0_has 17 = .ok (.aload_n 0, 1) := by decide +kernel
theorem dX0_has_18 : decode cX0_has 18 = .ok (.getfield 19, 3) := by decide +kernel
theorem dX0_has_21 : decode cX0_has 21 = .ok (.if_icmp .ge 7, 3) := by decide +kernel
theorem dX0_has_24 : decode cX0_has 24 = .ok (.iconst 1, 1) := by decide +kernel
theorem dX0_has_25 : decode cX0_has 25 = .ok (.goto 4, 3) := by decide +kernel
theorem dX0_has_28 : decode cX0_has 28 = .ok (.iconst 0, 1) := by decide +kernel
theorem dX0_has_29 : decode cX0_has 29 = .ok (.ireturn, 1) := by decide +kernel
theorem dX0_isFull_0 : decode cX0_isFull 0 = .ok (.aload_n 0, 1) := by decide +kernel
theorem dX0_isFull_1 : decode cX0_isFull 1 = .ok (.getfield 28, 3) := by decide +kernel
theorem dX0_isFull_4 : decode cX0_isFull 4 = .ok (.iconst 3, 1) := by decide +kernel
theorem dX0_isFull_5 : decode cX0_isFull 5 = .ok (.if_icmp .lt 7, 3) := by decide +kernel
theorem dX0_isFull_8 : decode cX0_isFull 8 = .ok (.iconst 1, 1) := by decide +kernel
theorem dX0_isFull_9 : decode cX0_isFull 9 = .ok (.goto 4, 3) := by decide +kernel
theorem dX0_isFull_12 : decode cX0_isFull 12 = .ok (.iconst 0, 1) := by decide +kernel
theorem dX0_isFull_13 : decode cX0_isFull 13 = .ok (.ireturn, 1) := by decide +kernel
theorem dX0_isPillar_0 : decode cX0_isPillar 0 = .ok (.aload_n 0, 1) := by decide +kernel
theorem dX0_isPillar_1 : decode cX0_isPillar 1 = .ok (.iload_n 1, 1) := by decide +kernel
theorem dX0_isPillar_2 : decode cX0_isPillar 2 = .ok (.invokevirtual 31, 3) := by decide +kernel
theorem dX0_isPillar_5 : decode cX0_isPillar 5 = .ok (.iconst (-1), 1) := by decide +kernel
theorem dX0_isPillar_6 : decode cX0_isPillar 6 = .ok (.if_icmp .eq 7, 3) := by decide +kernel
theorem dX0_isPillar_9 : decode cX0_isPillar 9 = .ok (.iconst 1, 1) := by decide +kernel
theorem dX0_isPillar_10 : decode cX0_isPillar 10 = .ok (.goto 4, 3) := by decide +kernel
theorem dX0_isPillar_13 : decode cX0_isPillar 13 = .ok (.iconst 0, 1) := by decide +kernel
theorem dX0_isPillar_14 : decode cX0_isPillar 14 = .ok (.ireturn, 1) := by decide +kernel
theorem dX0_setPillar_0 : decode cX0_setPillar 0 = .ok (.aload_n 0, 1) := by decide +kernel
theorem dX0_setPillar_1 : decode cX0_setPillar 1 = .ok (.invokevirtual 35, 3) := by decide +kernel
theorem dX0_setPillar_4 : decode cX0_setPillar 4 = .ok (.ifCond .ne 16, 3) := by decide +kernel
theorem dX0_setPillar_7 : decode cX0_setPillar 7 = .ok (.iload_n 1, 1) := by decide +kernel
theorem dX0_setPillar_8 : decode cX0_setPillar 8 = .ok (.ifCond .lt 12, 3) := by decide +kernel
theorem dX0_setPillar_11 : decode cX0_setPillar 11 = .ok (.iload_n 1, 1) := by decide +kernel
theorem dX0_setPillar_12 : decode cX0_setPillar 12 = .ok (.aload_n 0, 1) := by decide +kernel
theorem dX0_setPillar_13 : decode cX0_setPillar 13 = .ok (.getfield 9, 3) := by decide +kernel
theorem dX0_setPillar_16 : decode cX0_setPillar 16 = .ok (.arraylength, 1) := by decide +kernel
theorem dX0_setPillar_17 : decode cX0_setPillar 17 = .ok (.if_icmp .lt 5, 3) := by decide +kernel
theorem dX0_setPillar_20 : decode cX0_setPillar 20 = .ok (.iconst (-1), 1) := by decide +kernel
theorem dX0_setPillar_21 : decode cX0_setPillar 21 = .ok (.ireturn, 1) := by decide +kernel
theorem dX0_setPillar_22 : decode cX0_setPillar 22 = .ok (.aload_n 0, 1) := by decide +kernel
theorem dX0_setPillar_23 : decode cX0_setPillar 23 = .ok (.getfield 28, 3) := by decide +kernel
theorem dX0_setPillar_26 : decode cX0_setPillar 26 = .ok (.istore_n 2, 1) := by decide +kernel
theorem dX0_setPillar_27 : decode cX0_setPillar 27 = .ok (.aload_n 0, 1) := by decide +kernel
theorem dX0_setPillar_28 : decode cX0_setPillar 28 = .ok (.getfield 9, 3) := by decide +kernel
theorem dX0_setPillar_31 : decode cX0_setPillar 31 = .ok (.iload_n 1, 1) := by decide +kernel
theorem dX0_setPillar_32 : decode cX0_setPillar 32 = .ok (.iload_n 2, 1) := by decide +kernel
theorem dX0_setPillar_33 : decode cX0_setPillar 33 = .ok (.iastore, 1) := by decide +kernel
theorem dX0_setPillar_34 : decode cX0_setPillar 34 = .ok (.aload_n 0, 1) := by decide +kernel
theorem dX0_setPillar_35 : decode cX0_setPillar 35 = .ok (.dup, 1) := by decide +kernel
theorem dX0_setPillar_36 : decode cX0_setPillar 36 = .ok (.getfield 28, 3) := by decide +kernel
theorem dX0_setPillar_39 : decode cX0_setPillar 39 = .ok (.iconst 1, 1) := by decide +kernel
theorem dX0_setPillar_40 : decode cX0_setPillar 40 = .ok (.iadd, 1) := by decide +kernel
theorem dX0_setPillar_41 : decode cX0_setPillar 41 = .ok (.putfield 28, 3) := by decide +kernel
theorem dX0_setPillar_44 : decode cX0_setPillar 44 = .ok (.iload_n 2, 1) := by decide +kernel
theorem dX0_setPillar_45 : decode cX0_setPillar 45 = .ok (.ireturn, 1) := by decide +kernel
theorem dX0_after_0 : decode cX0_after 0 = .ok (.iload_n 1, 1) := by decide +kernel
theorem dX0_after_1 : decode cX0_after 1 = .ok (.invokestatic 39, 3) := by decide +kernel
theorem dX0_after_4 : decode cX0_after 4 = .ok (.invokestatic 42, 3) := by decide +kernel
theorem dX0_after_7 : decode cX0_after 7 = .ok (.istore_n 3, 1) := by decide +kernel
theorem dX0_after_8 : decode cX0_after 8 = .ok (.iload_n 1, 1) := by decide +kernel
theorem dX0_after_9 : decode cX0_after 9 = .ok (.invokestatic 39, 3) := by decide +kernel
theorem dX0_after_12 : decode cX0_after 12 = .ok (.invokestatic 45, 3) := by decide +kernel
theorem dX0_after_15 : decode cX0_after 15 = .ok (.istore 4, 2) := by decide +kernel
theorem dX0_after_17 : decode cX0_after 17 = .ok (.iload_n 2, 1) := by decide +kernel
theorem dX0_after_18 : decode cX0_after 18 = .ok (.tableswitch 102 0 3 #[30, 44, 65, 79], 30) := by decide +kernel
theorem dX0_after_48 : decode cX0_after 48 = .ok (.aload_n 0, 1) := by decide +kernel
theorem dX0_after_49 : decode cX0_after 49 = .ok (.iload_n 3, 1) := by decide +kernel
theorem dX0_after_50 : decode cX0_after 50 = .ok (.iload 4, 2) := by decide +kernel
theorem dX0_after_52 : decode cX0_after 52 = .ok (.iconst 1, 1) := by decide +kernel
theorem dX0_after_53 : decode cX0_after 53 = .ok (.isub, 1) := by decide +kernel
theorem dX0_after_54 : decode cX0_after 54 = .ok (.iload_n 1, 1) := by decide +kernel
theorem dX0_after_55 : decode cX0_after 55 = .ok (.invokestatic 48, 3) := by decide +kernel
theorem dX0_after_58 : decode cX0_after 58 = .ok (.invokevirtual 51, 3) := by decide +kernel
theorem dX0_after_61 : decode cX0_after 61 = .ok (.ireturn, 1) := by decide +kernel
theorem dX0_after_62 : decode cX0_after 62 = .ok (.aload_n 0, 1) := by decide +kernel
theorem dX0_after_63 : decode cX0_after 63 = .ok (.iload_n 3, 1) := by decide +kernel
theorem dX0_after_64 : decode cX0_after 64 = .ok (.iconst 1, 1) := by decide +kernel
theorem dX0_after_65 : decode cX0_after 65 = .ok (.iadd, 1) := by decide +kernel
theorem dX0_after_66 : decode cX0_after 66 = .ok (.iload 4, 2) := by decide +kernel
theorem dX0_after_68 : decode cX0_after 68 = .ok (.aload_n 0, 1) := by decide +kernel
theorem dX0_after_69 : decode cX0_after 69 = .ok (.iload_n 1, 1) := by decide +kernel
theorem dX0_after_70 : decode cX0_after 70 = .ok (.invokestatic 48, 3) := by decide +kernel
theorem dX0_after_73 : decode cX0_after 73 = .ok (.iload_n 3, 1) := by decide +kernel
theorem dX0_after_74 : decode cX0_after 74 = .ok (.iload 4, 2) := by decide +kernel
theorem dX0_after_76 : decode cX0_after 76 = .ok (.invokevirtual 55, 3) := by decide +kernel
theorem dX0_after_79 : decode cX0_after 79 = .ok (.invokevirtual 51, 3) := by decide +kernel
theorem dX0_after_82 : decode cX0_after 82 = .ok (.ireturn, 1) := by decide +kernel
theorem dX0_after_83 : decode cX0_after 83 = .ok (.aload_n 0, 1) := by decide +kernel
theorem dX0_after_84 : decode cX0_after 84 = .ok (.iload_n 3, 1) := by decide +kernel
theorem dX0_after_85 : decode cX0_after 85 = .ok (.iload 4, 2) := by decide +kernel
theorem dX0_after_87 : decode cX0_after 87 = .ok (.iconst 1, 1) := by decide +kernel
theorem dX0_after_88 : decode cX0_after 88 = .ok (.iadd, 1) := by decide +kernel
theorem dX0_after_89 : decode cX0_after 89 = .ok (.iload_n 1, 1) := by decide +kernel
theorem dX0_after_90 : decode cX0_after 90 = .ok (.invokestatic 48, 3) := by decide +kernel
theorem dX0_after_93 : decode cX0_after 93 = .ok (.invokevirtual 51, 3) := by decide +kernel
theorem dX0_after_96 : decode cX0_after 96 = .ok (.ireturn, 1) := by decide +kernel
theorem dX0_after_97 : decode cX0_after 97 = .ok (.aload_n 0, 1) := by decide +kernel
theorem dX0_after_98 : decode cX0_after 98 = .ok (.iload_n 3, 1) := by decide +kernel
theorem dX0_after_99 : decode cX0_after 99 = .ok (.iconst 1, 1) := by decide +kernel
theorem dX0_after_100 : decode cX0_after 100 = .ok (.isub, 1) := by decide +kernel
theorem dX0_after_101 : decode cX0_after 101 = .ok (.iload 4, 2) := by decide +kernel
theorem dX0_after_103 : decode cX0_after 103 = .ok (.aload_n 0, 1) := by decide +kernel
theorem dX0_after_104 : decode cX0_after 104 = .ok (.iload_n 1, 1) := by decide +kernel
theorem dX0_after_105 : decode cX0_after 105 = .ok (.invokestatic 48, 3) := by decide +kernel
theorem dX0_after_108 : decode cX0_after 108 = .ok (.iload_n 3, 1) := by decide +kernel
theorem dX0_after_109 : decode cX0_after 109 = .ok (.iconst 1, 1) := by decide +kernel
theorem dX0_after_110 : decode cX0_after 110 = .ok (.isub, 1) := by decide +kernel
theorem dX0_after_111 : decode cX0_after 111 = .ok (.iload 4, 2) := by decide +kernel
theorem dX0_after_113 : decode cX0_after 113 = .ok (.invokevirtual 58, 3) := by decide +kernel
theorem dX0_after_116 : decode cX0_after 116 = .ok (.invokevirtual 51, 3) := by decide +kernel
theorem dX0_after_119 : decode cX0_after 119 = .ok (.ireturn, 1) := by decide +kernel
theorem dX0_after_120 : decode cX0_after 120 = .ok (.iconst (-1), 1) := by decide +kernel
theorem dX0_after_121 : decode cX0_after 121 = .ok (.ireturn, 1) := by decide +kernel
theorem dX0_placeAt_0 : decode cX0_placeAt 0 = .ok (.iload_n 3, 1) := by decide +kernel
theorem dX0_placeAt_1 : decode cX0_placeAt 1 = .ok (.sipush 343, 3) := by decide +kernel
theorem dX0_placeAt_4 : decode cX0_placeAt 4 = .ok (.if_icmp .ge 24, 3) := by decide +kernel
theorem dX0_placeAt_7 : decode cX0_placeAt 7 = .ok (.aload_n 0, 1) := by decide +kernel
theorem dX0_placeAt_8 : decode cX0_placeAt 8 = .ok (.iload_n 1, 1) := by decide +kernel
theorem dX0_placeAt_9 : decode cX0_placeAt 9 = .ok (.iload_n 2, 1) := by decide +kernel
theorem dX0_placeAt_10 : decode cX0_placeAt 10 = .ok (.invokevirtual 61, 3) := by decide +kernel
theorem dX0_placeAt_13 : decode cX0_placeAt 13 = .ok (.ifCond .eq 15, 3) := by decide +kernel
theorem dX0_placeAt_16 : decode cX0_placeAt 16 = .ok (.aload_n 0, 1) := by decide +kernel
theorem dX0_placeAt_17 : decode cX0_placeAt 17 = .ok (.iload_n 1, 1) := by decide +kernel
theorem dX0_placeAt_18 : decode cX0_placeAt 18 = .ok (.iload_n 2, 1) := by decide +kernel
theorem dX0_placeAt_19 : decode cX0_placeAt 19 = .ok (.invokestatic 65, 3) := by decide +kernel
theorem dX0_placeAt_22 : decode cX0_placeAt 22 = .ok (.invokevirtual 69, 3) := by decide +kernel
theorem dX0_placeAt_25 : decode cX0_placeAt 25 = .ok (.ifCond .eq 5, 3) := by decide +kernel
theorem dX0_placeAt_28 : decode cX0_placeAt 28 = .ok (.iconst (-1), 1) := by decide +kernel
theorem dX0_placeAt_29 : decode cX0_placeAt 29 = .ok (.ireturn, 1) := by decide +kernel
theorem dX0_placeAt_30 : decode cX0_placeAt 30 = .ok (.iload_n 1, 1) := by decide +kernel
theorem dX0_placeAt_31 : decode cX0_placeAt 31 = .ok (.iload_n 2, 1) := by decide +kernel
theorem dX0_placeAt_32 : decode cX0_placeAt 32 = .ok (.invokestatic 65, 3) := by decide +kernel
theorem dX0_placeAt_35 : decode cX0_placeAt 35 = .ok (.iload_n 3, 1) := by decide +kernel
theorem dX0_placeAt_36 : decode cX0_placeAt 36 = .ok (.invokestatic 73, 3) := by decide +kernel
theorem dX0_placeAt_39 : decode cX0_placeAt 39 = .ok (.ireturn, 1) := by decide +kernel
theorem dX0_wordToTheRight_0 : decode cX0_wordToTheRight 0 = .ok (.iload_n 1, 1) := by decide +kernel
theorem dX0_wordToTheRight_1 : decode cX0_wordToTheRight 1 = .ok (.istore 4, 2) := by decide +kernel
theorem dX0_wordToTheRight_3 : decode cX0_wordToTheRight 3 = .ok (.iload_n 3, 1) := by decide +kernel
theorem dX0_wordToTheRight_4 : decode cX0_wordToTheRight 4 = .ok (.iconst 1, 1) := by decide +kernel
theorem dX0_wordToTheRight_5 : decode cX0_wordToTheRight 5 = .ok (.iadd, 1) := by decide +kernel
theorem dX0_wordToTheRight_6 : decode cX0_wordToTheRight 6 = .ok (.istore 5, 2) := by decide +kernel
theorem dX0_wordToTheRight_8 : decode cX0_wordToTheRight 8 = .ok (.iload 5, 2) := by decide +kernel
theorem dX0_wordToTheRight_10 : decode cX0_wordToTheRight 10 = .ok (.aload_n 0, 1) := by decide +kernel
theorem dX0_wordToTheRight_11 : decode cX0_wordToTheRight 11 = .ok (.getfield 19, 3) := by decide +kernel
theorem dX0_wordToTheRight_14 : decode cX0_wordToTheRight 14 = .ok (.if_icmp .ge 38, 3) := by decide +kernel
theorem dX0_wordToTheRight_17 : decode cX0_wordToTheRight 17 = .ok (.aload_n 0, 1) := by decide +kernel
theorem dX0_wordToTheRight_18 : decode cX0_wordToTheRight 18 = .ok (.iload_n 2, 1) := by decide +kernel
theorem dX0_wordToTheRight_19 : decode cX0_wordToTheRight 19 = .ok (.iload 5, 2) := by decide +kernel
theorem dX0_wordToTheRight_21 : decode cX0_wordToTheRight 21 = .ok (.invokestatic 65, 3) := by decide +kernel
theorem dX0_wordToTheRight_24 : decode cX0_wordToTheRight 24 = .ok (.invokevirtual 31, 3) := by decide +kernel
theorem dX0_wordToTheRight_27 : decode cX0_wordToTheRight 27 = .ok (.istore 6, 2) := by decide +kernel
theorem dX0_wordToTheRight_29 : decode cX0_wordToTheRight 29 = .ok (.iload 6, 2) := by decide +kernel
theorem dX0_wordToTheRight_31 : decode cX0_wordToTheRight 31 = .ok (.iconst (-1), 1) := by decide +kernel
theorem dX0_wordToTheRight_32 : decode cX0_wordToTheRight 32 = .ok (.if_icmp .eq 14, 3) := by decide +kernel
theorem dX0_wordToTheRight_35 : decode cX0_wordToTheRight 35 = .ok (.iload 4, 2) := by decide +kernel
theorem dX0_wordToTheRight_37 : decode cX0_wordToTheRight 37 = .ok (.iconst 2, 1) := by decide +kernel
theorem dX0_wordToTheRight_38 : decode cX0_wordToTheRight 38 = .ok (.iload 6, 2) := by decide +kernel
theorem dX0_wordToTheRight_40 : decode cX0_wordToTheRight 40 = .ok (.imul, 1) := by decide +kernel
theorem dX0_wordToTheRight_41 : decode cX0_wordToTheRight 41 = .ok (.invokestatic 76, 3) := by decide +kernel
theorem dX0_wordToTheRight_44 : decode cX0_wordToTheRight 44 = .ok (.istore 4, 2) := by decide +kernel
theorem dX0_wordToTheRight_46 : decode cX0_wordToTheRight 46 = .ok (.iinc 5 1, 3) := by decide +kernel
theorem dX0_wordToTheRight_49 : decode cX0_wordToTheRight 49 = .ok (.goto (-41), 3) := by decide +kernel
theorem dX0_wordToTheRight_52 : decode cX0_wordToTheRight 52 = .ok (.iload 4, 2) := by decide +kernel
theorem dX0_wordToTheRight_54 : decode cX0_wordToTheRight 54 = .ok (.ireturn, 1) := by decide +kernel
theorem dX0_wordToTheLeft_0 : decode cX0_wordToTheLeft 0 = .ok (.iload_n 1, 1) := by decide +kernel
theorem dX0_wordToTheLeft_1 : decode cX0_wordToTheLeft 1 = .ok (.istore 4, 2) := by decide +kernel
theorem dX0_wordToTheLeft_3 : decode cX0_wordToTheLeft 3 = .ok (.aload_n 0, 1) := by decide +kernel
theorem dX0_wordToTheLeft_4 : decode cX0_wordToTheLeft 4 = .ok (.getfield 19, 3) := by decide +kernel
theorem dX0_wordToTheLeft_7 : decode cX0_wordToTheLeft 7 = .ok (.iconst 1, 1) := by decide +kernel
theorem dX0_wordToTheLeft_8 : decode cX0_wordToTheLeft 8 = .ok (.isub, 1) := by decide +kernel
theorem dX0_wordToTheLeft_9 : decode cX0_wordToTheLeft 9 = .ok (.istore 5, 2) := by decide +kernel
theorem dX0_wordToTheLeft_11 : decode cX0_wordToTheLeft 11 = .ok (.iload 5, 2) := by decide +kernel
theorem dX0_wordToTheLeft_13 : decode cX0_wordToTheLeft 13 = .ok (.iload_n 3, 1) := by decide +kernel
theorem dX0_wordToTheLeft_14 : decode cX0_wordToTheLeft 14 = .ok (.if_icmp .le 41, 3) := by decide +kernel
theorem dX0_wordToTheLeft_17 : decode cX0_wordToTheLeft 17 = .ok (.aload_n 0, 1) := by decide +kernel
theorem dX0_wordToTheLeft_18 : decode cX0_wordToTheLeft 18 = .ok (.iload_n 2, 1) := by decide +kernel
theorem dX0_wordToTheLeft_19 : decode cX0_wordToTheLeft 19 = .ok (.iload 5, 2) := by decide +kernel
theorem dX0_wordToTheLeft_21 : decode cX0_wordToTheLeft 21 = .ok (.invokestatic 65, 3) := by decide +kernel
theorem dX0_wordToTheLeft_24 : decode cX0_wordToTheLeft 24 = .ok (.invokevirtual 31, 3) := by decide +kernel
theorem dX0_wordToTheLeft_27 : decode cX0_wordToTheLeft 27 = .ok (.istore 6, 2) := by decide +kernel
theorem dX0_wordToTheLeft_29 : decode cX0_wordToTheLeft 29 = .ok (.iload 6, 2) := by decide +kernel
theorem dX0_wordToTheLeft_31 : decode cX0_wordToTheLeft 31 = .ok (.iconst (-1), 1) := by decide +kernel
theorem dX0_wordToTheLeft_32 : decode cX0_wordToTheLeft 32 = .ok (.if_icmp .eq 17, 3) := by decide +kernel
theorem dX0_wordToTheLeft_35 : decode cX0_wordToTheLeft 35 = .ok (.iload 4, 2) := by decide +kernel
theorem dX0_wordToTheLeft_37 : decode cX0_wordToTheLeft 37 = .ok (.iconst 2, 1) := by decide +kernel
theorem dX0_wordToTheLeft_38 : decode cX0_wordToTheLeft 38 = .ok (.iload 6, 2) := by decide +kernel
theorem dX0_wordToTheLeft_40 : decode cX0_wordToTheLeft 40 = .ok (.imul, 1) := by decide +kernel
theorem dX0_wordToTheLeft_41 : decode cX0_wordToTheLeft 41 = .ok (.invokestatic 79, 3) := by decide +kernel
theorem dX0_wordToTheLeft_44 : decode cX0_wordToTheLeft 44 = .ok (.invokestatic 76, 3) := by decide +kernel
theorem dX0_wordToTheLeft_47 : decode cX0_wordToTheLeft 47 = .ok (.istore 4, 2) := by decide +kernel
theorem dX0_wordToTheLeft_49 : decode cX0_wordToTheLeft 49 = .ok (.iinc 5 (-1), 3) := by decide +kernel
theorem dX0_wordToTheLeft_52 : decode cX0_wordToTheLeft 52 = .ok (.goto (-41), 3) := by decide +kernel
theorem dX0_wordToTheLeft_55 : decode cX0_wordToTheLeft 55 = .ok (.iload 4, 2) := by decide +kernel
theorem dX0_wordToTheLeft_57 : decode cX0_wordToTheLeft 57 = .ok (.ireturn, 1) := by decide +kernel
theorem dX0_pillarNumberOf_0 : decode cX0_pillarNumberOf 0 = .ok (.iload_n 1, 1) := by decide +kernel
theorem dX0_pillarNumberOf_1 : decode cX0_pillarNumberOf 1 = .ok (.ifCond .lt 21, 3) := by decide +kernel
theorem dX0_pillarNumberOf_4 : decode cX0_pillarNumberOf 4 = .ok (.iload_n 1, 1) := by decide +kernel
theorem dX0_pillarNumberOf_5 : decode cX0_pillarNumberOf 5 = .ok (.aload_n 0, 1) := by decide +kernel
theorem dX0_pillarNumberOf_6 : decode cX0_pillarNumberOf 6 = .ok (.getfield 9, 3) := by decide +kernel
theorem dX0_pillarNumberOf_9 : decode cX0_pillarNumberOf 9 = .ok (.arraylength, 1) := by decide +kernel
theorem dX0_pillarNumberOf_10 : decode cX0_pillarNumberOf 10 = .ok (.if_icmp .ge 12, 3) := by decide +kernel
theorem dX0_pillarNumberOf_13 : decode cX0_pillarNumberOf 13 = .ok (.aload_n 0, 1) := by decide +kernel
theorem dX0_pillarNumberOf_14 : decode cX0_pillarNumberOf 14 = .ok (.getfield 9, 3) := by decide +kernel
theorem dX0_pillarNumberOf_17 : decode cX0_pillarNumberOf 17 = .ok (.iload_n 1, 1) := by decide +kernel
theorem dX0_pillarNumberOf_18 : decode cX0_pillarNumberOf 18 = .ok (.iaload, 1) := by decide +kernel
theorem dX0_pillarNumberOf_19 : decode cX0_pillarNumberOf 19 = .ok (.goto 4, 3) := by decide +kernel
theorem dX0_pillarNumberOf_22 : decode cX0_pillarNumberOf 22 = .ok (.iconst (-1), 1) := by decide +kernel
theorem dX0_pillarNumberOf_23 : decode cX0_pillarNumberOf 23 = .ok (.ireturn, 1) := by decide +kernel
theorem dX1_init_0 : decode cX1_init 0 = .ok (.aload_n 0, 1) := by decide +kernel
theorem dX1_init_1 : decode cX1_init 1 = .ok (.invokespecial 3, 3) := by decide +kernel
theorem dX1_init_4 : decode cX1_init 4 = .ok (.aload_n 0, 1) := by decide +kernel
theorem dX1_init_5 : decode cX1_init 5 = .ok (.sipush 16807, 3) := by decide +kernel
theorem dX1_init_8 : decode cX1_init 8 = .ok (.newarray .int, 2) := by decide +kernel
theorem dX1_init_10 : decode cX1_init 10 = .ok (.putfield 9, 3) := by decide +kernel
theorem dX1_init_13 : decode cX1_init 13 = .ok (.aload_n 0, 1) := by decide +kernel
theorem dX1_init_14 : decode cX1_init 14 = .ok (.sipush 9163, 3) := by decide +kernel
theorem dX1_init_17 : decode cX1_init 17 = .ok (.newarray .int, 2) := by decide +kernel
theorem dX1_init_19 : decode cX1_init 19 = .ok (.putfield 15, 3) := by decide +kernel
theorem dX1_init_22 : decode cX1_init 22 = .ok (.return_, 1) := by decide +kernel
theorem dX1_begin_0 : decode cX1_begin 0 = .ok (.aload_n 0, 1) := by decide +kernel
theorem dX1_begin_1 : decode cX1_begin 1 = .ok (.getfield 9, 3) := by decide +kernel
theorem dX1_begin_4 : decode cX1_begin 4 = .ok (.iconst (-1), 1) := by decide +kernel
theorem dX1_begin_5 : decode cX1_begin 5 = .ok (.invokestatic 18, 3) := by decide +kernel
theorem dX1_begin_8 : decode cX1_begin 8 = .ok (.aload_n 0, 1) := by decide +kernel
theorem dX1_begin_9 : decode cX1_begin 9 = .ok (.iconst 0, 1) := by decide +kernel
theorem dX1_begin_10 : decode cX1_begin 10 = .ok (.putfield 24, 3) := by decide +kernel
theorem dX1_begin_13 : decode cX1_begin 13 = .ok (.aload_n 0, 1) := by decide +kernel
theorem dX1_begin_14 : decode cX1_begin 14 = .ok (.iload_n 1, 1) := by decide +kernel
theorem dX1_begin_15 : decode cX1_begin 15 = .ok (.iconst 0, 1) := by decide +kernel
theorem dX1_begin_16 : decode cX1_begin 16 = .ok (.invokevirtual 28, 3) := by decide +kernel
theorem dX1_begin_19 : decode cX1_begin 19 = .ok (.return_, 1) := by decide +kernel
theorem dX1_reach_0 : decode cX1_reach 0 = .ok (.aload_n 0, 1) := by decide +kernel
theorem dX1_reach_1 : decode cX1_reach 1 = .ok (.iload_n 1, 1) := by decide +kernel
theorem dX1_reach_2 : decode cX1_reach 2 = .ok (.invokevirtual 32, 3) := by decide +kernel
theorem dX1_reach_5 : decode cX1_reach 5 = .ok (.iconst (-1), 1) := by decide +kernel
theorem dX1_reach_6 : decode cX1_reach 6 = .ok (.if_icmp .ne 15, 3) := by decide +kernel
theorem dX1_reach_9 : decode cX1_reach 9 = .ok (.aload_n 0, 1) := by decide +kernel
theorem dX1_reach_10 : decode cX1_reach 10 = .ok (.iload_n 1, 1) := by decide +kernel
theorem dX1_reach_11 : decode cX1_reach 11 = .ok (.aload_n 0, 1) := by decide +kernel
theorem dX1_reach_12 : decode cX1_reach 12 = .ok (.iload_n 2, 1) := by decide +kernel
theorem dX1_reach_13 : decode cX1_reach 13 = .ok (.invokevirtual 32, 3) := by decide +kernel
theorem dX1_reach_16 : decode cX1_reach 16 = .ok (.iconst 1, 1) := by decide +kernel
theorem dX1_reach_17 : decode cX1_reach 17 = .ok (.iadd, 1) := by decide +kernel
theorem dX1_reach_18 : decode cX1_reach 18 = .ok (.invokevirtual 28, 3) := by decide +kernel
theorem dX1_reach_21 : decode cX1_reach 21 = .ok (.return_, 1) := by decide +kernel
theorem dX1_count_0 : decode cX1_count 0 = .ok (.aload_n 0, 1) := by decide +kernel
theorem dX1_count_1 : decode cX1_count 1 = .ok (.getfield 24, 3) := by decide +kernel
theorem dX1_count_4 : decode cX1_count 4 = .ok (.ireturn, 1) := by decide +kernel
theorem dX1_placeAt_0 : decode cX1_placeAt 0 = .ok (.iload_n 1, 1) := by decide +kernel
theorem dX1_placeAt_1 : decode cX1_placeAt 1 = .ok (.ifCond .lt 29, 3) := by decide +kernel
theorem dX1_placeAt_4 : decode cX1_placeAt 4 = .ok (.iload_n 1, 1) := by decide +kernel
theorem dX1_placeAt_5 : decode cX1_placeAt 5 = .ok (.aload_n 0, 1) := by decide +kernel
theorem dX1_placeAt_6 : decode cX1_placeAt 6 = .ok (.getfield 24, 3) := by decide +kernel
theorem dX1_placeAt_9 : decode cX1_placeAt 9 = .ok (.if_icmp .ge 21, 3) := by decide +kernel
theorem dX1_placeAt_12 : decode cX1_placeAt 12 = .ok (.iload_n 1, 1) := by decide +kernel
theorem dX1_placeAt_13 : decode cX1_placeAt 13 = .ok (.aload_n 0, 1) := by decide +kernel
theorem dX1_placeAt_14 : decode cX1_placeAt 14 = .ok (.getfield 15, 3) := by decide +kernel
theorem dX1_placeAt_17 : decode cX1_placeAt 17 = .ok (.arraylength, 1) := by decide +kernel
theorem dX1_placeAt_18 : decode cX1_placeAt 18 = .ok (.if_icmp .ge 12, 3) := by decide +kernel
theorem dX1_placeAt_21 : decode cX1_placeAt 21 = .ok (.aload_n 0, 1) := by decide +kernel
theorem dX1_placeAt_22 : decode cX1_placeAt 22 = .ok (.getfield 15, 3) := by decide +kernel
theorem dX1_placeAt_25 : decode cX1_placeAt 25 = .ok (.iload_n 1, 1) := by decide +kernel
theorem dX1_placeAt_26 : decode cX1_placeAt 26 = .ok (.iaload, 1) := by decide +kernel
theorem dX1_placeAt_27 : decode cX1_placeAt 27 = .ok (.goto 4, 3) := by decide +kernel
theorem dX1_placeAt_30 : decode cX1_placeAt 30 = .ok (.iconst (-1), 1) := by decide +kernel
theorem dX1_placeAt_31 : decode cX1_placeAt 31 = .ok (.ireturn, 1) := by decide +kernel
theorem dX1_distanceOf_0 : decode cX1_distanceOf 0 = .ok (.iload_n 1, 1) := by decide +kernel
theorem dX1_distanceOf_1 : decode cX1_distanceOf 1 = .ok (.ifCond .lt 21, 3) := by decide +kernel
theorem dX1_distanceOf_4 : decode cX1_distanceOf 4 = .ok (.iload_n 1, 1) := by decide +kernel
theorem dX1_distanceOf_5 : decode cX1_distanceOf 5 = .ok (.aload_n 0, 1) := by decide +kernel
theorem dX1_distanceOf_6 : decode cX1_distanceOf 6 = .ok (.getfield 9, 3) := by decide +kernel
theorem dX1_distanceOf_9 : decode cX1_distanceOf 9 = .ok (.arraylength, 1) := by decide +kernel
theorem dX1_distanceOf_10 : decode cX1_distanceOf 10 = .ok (.if_icmp .ge 12, 3) := by decide +kernel
theorem dX1_distanceOf_13 : decode cX1_distanceOf 13 = .ok (.aload_n 0, 1) := by decide +kernel
theorem dX1_distanceOf_14 : decode cX1_distanceOf 14 = .ok (.getfield 9, 3) := by decide +kernel
theorem dX1_distanceOf_17 : decode cX1_distanceOf 17 = .ok (.iload_n 1, 1) := by decide +kernel
theorem dX1_distanceOf_18 : decode cX1_distanceOf 18 = .ok (.iaload, 1) := by decide +kernel
theorem dX1_distanceOf_19 : decode cX1_distanceOf 19 = .ok (.goto 4, 3) := by decide +kernel
theorem dX1_distanceOf_22 : decode cX1_distanceOf 22 = .ok (.iconst (-1), 1) := by decide +kernel
theorem dX1_distanceOf_23 : decode cX1_distanceOf 23 = .ok (.ireturn, 1) := by decide +kernel
theorem dX1_add_0 : decode cX1_add 0 = .ok (.iload_n 1, 1) := by decide +kernel
theorem dX1_add_1 : decode cX1_add 1 = .ok (.ifCond .lt 58, 3) := by decide +kernel
theorem dX1_add_4 : decode cX1_add 4 = .ok (.iload_n 1, 1) := by decide +kernel
theorem dX1_add_5 : decode cX1_add 5 = .ok (.aload_n 0, 1) := by decide +kernel
theorem dX1_add_6 : decode cX1_add 6 = .ok (.getfield 9, 3) := by decide +kernel
theorem dX1_add_9 : decode cX1_add 9 = .ok (.arraylength, 1) := by decide +kernel
theorem dX1_add_10 : decode cX1_add 10 = .ok (.if_icmp .ge 49, 3) := by decide +kernel
theorem dX1_add_13 : decode cX1_add 13 = .ok (.aload_n 0, 1) := by decide +kernel
theorem dX1_add_14 : decode cX1_add 14 = .ok (.getfield 24, 3) := by decide +kernel
theorem dX1_add_17 : decode cX1_add 17 = .ok (.ifCond .lt 42, 3) := by decide +kernel
theorem dX1_add_20 : decode cX1_add 20 = .ok (.aload_n 0, 1) := by decide +kernel
theorem dX1_add_21 : decode cX1_add 21 = .ok (.getfield 24, 3) := by decide +kernel
theorem dX1_add_24 : decode cX1_add 24 = .ok (.aload_n 0, 1) := by decide +kernel
theorem dX1_add_25 : decode cX1_add 25 = .ok (.getfield 15, 3) := by decide +kernel
theorem dX1_add_28 : decode cX1_add 28 = .ok (.arraylength, 1) := by decide +kernel
theorem dX1_add_29 : decode cX1_add 29 = .ok (.if_icmp .ge 30, 3) := by decide +kernel
theorem dX1_add_32 : decode cX1_add 32 = .ok (.aload_n 0, 1) := by decide +kernel
theorem dX1_add_33 : decode cX1_add 33 = .ok (.getfield 9, 3) := by decide +kernel
theorem dX1_add_36 : decode cX1_add 36 = .ok (.iload_n 1, 1) := by decide +kernel
theorem dX1_add_37 : decode cX1_add 37 = .ok (.iload_n 2, 1) := by decide +kernel
theorem dX1_add_38 : decode cX1_add 38 = .ok (.iastore, 1) := by decide +kernel
theorem dX1_add_39 : decode cX1_add 39 = .ok (.aload_n 0, 1) := by decide +kernel
theorem dX1_add_40 : decode cX1_add 40 = .ok (.getfield 15, 3) := by decide +kernel
theorem dX1_add_43 : decode cX1_add 43 = .ok (.aload_n 0, 1) := by decide +kernel
theorem dX1_add_44 : decode cX1_add 44 = .ok (.getfield 24, 3) := by decide +kernel
theorem dX1_add_47 : decode cX1_add 47 = .ok (.iload_n 1, 1) := by decide +kernel
theorem dX1_add_48 : decode cX1_add 48 = .ok (.iastore, 1) := by decide +kernel
theorem dX1_add_49 : decode cX1_add 49 = .ok (.aload_n 0, 1) := by decide +kernel
theorem dX1_add_50 : decode cX1_add 50 = .ok (.dup, 1) := by decide +kernel
theorem dX1_add_51 : decode cX1_add 51 = .ok (.getfield 24, 3) := by decide +kernel
theorem dX1_add_54 : decode cX1_add 54 = .ok (.iconst 1, 1) := by decide +kernel
theorem dX1_add_55 : decode cX1_add 55 = .ok (.iadd, 1) := by decide +kernel
theorem dX1_add_56 : decode cX1_add 56 = .ok (.putfield 24, 3) := by decide +kernel
theorem dX1_add_59 : decode cX1_add 59 = .ok (.return_, 1) := by decide +kernel
theorem dX2_init_0 : decode cX2_init 0 = .ok (.aload_n 0, 1) := by decide +kernel
theorem dX2_init_1 : decode cX2_init 1 = .ok (.invokespecial 3, 3) := by decide +kernel
theorem dX2_init_4 : decode cX2_init 4 = .ok (.aload_n 0, 1) := by decide +kernel
theorem dX2_init_5 : decode cX2_init 5 = .ok (.new 9, 3) := by decide +kernel
theorem dX2_init_8 : decode cX2_init 8 = .ok (.dup, 1) := by decide +kernel
theorem dX2_init_9 : decode cX2_init 9 = .ok (.invokespecial 11, 3) := by decide +kernel
theorem dX2_init_12 : decode cX2_init 12 = .ok (.putfield 12, 3) := by decide +kernel
theorem dX2_init_15 : decode cX2_init 15 = .ok (.aload_n 0, 1) := by decide +kernel
theorem dX2_init_16 : decode cX2_init 16 = .ok (.new 9, 3) := by decide +kernel
theorem dX2_init_19 : decode cX2_init 19 = .ok (.dup, 1) := by decide +kernel
theorem dX2_init_20 : decode cX2_init 20 = .ok (.invokespecial 11, 3) := by decide +kernel
theorem dX2_init_23 : decode cX2_init 23 = .ok (.putfield 16, 3) := by decide +kernel
theorem dX2_init_26 : decode cX2_init 26 = .ok (.aload_n 0, 1) := by decide +kernel
theorem dX2_init_27 : decode cX2_init 27 = .ok (.new 19, 3) := by decide +kernel
theorem dX2_init_30 : decode cX2_init 30 = .ok (.dup, 1) := by decide +kernel
theorem dX2_init_31 : decode cX2_init 31 = .ok (.iconst 3, 1) := by decide +kernel
theorem dX2_init_32 : decode cX2_init 32 = .ok (.iload_n 1, 1) := by decide +kernel
theorem dX2_init_33 : decode cX2_init 33 = .ok (.bipush 7, 2) := by decide +kernel
theorem dX2_init_35 : decode cX2_init 35 = .ok (.invokestatic 21, 3) := by decide +kernel
theorem dX2_init_38 : decode cX2_init 38 = .ok (.iconst 3, 1) := by decide +kernel
theorem dX2_init_39 : decode cX2_init 39 = .ok (.iload_n 2, 1) := by decide +kernel
theorem dX2_init_40 : decode cX2_init 40 = .ok (.bipush 7, 2) := by decide +kernel
theorem dX2_init_42 : decode cX2_init 42 = .ok (.invokestatic 21, 3) := by decide +kernel
theorem dX2_init_45 : decode cX2_init 45 = .ok (.invokespecial 25, 3) := by decide +kernel
theorem dX2_init_48 : decode cX2_init 48 = .ok (.putfield 28, 3) := by decide +kernel
theorem dX2_init_51 : decode cX2_init 51 = .ok (.aload_n 0, 1) := by decide +kernel
theorem dX2_init_52 : decode cX2_init 52 = .ok (.iconst 1, 1) := by decide +kernel
theorem dX2_init_53 : decode cX2_init 53 = .ok (.iload_n 3, 1) := by decide +kernel
theorem dX2_init_54 : decode cX2_init 54 = .ok (.bipush 60, 2) := by decide +kernel
theorem dX2_init_56 : decode cX2_init 56 = .ok (.invokestatic 21, 3) := by decide +kernel
theorem dX2_init_59 : decode cX2_init 59 = .ok (.putfield 32, 3) := by decide +kernel
theorem dX2_init_62 : decode cX2_init 62 = .ok (.aload_n 0, 1) := by decide +kernel
theorem dX2_init_63 : decode cX2_init 63 = .ok (.iconst 0, 1) := by decide +kernel
theorem dX2_init_64 : decode cX2_init 64 = .ok (.iconst 0, 1) := by decide +kernel
theorem dX2_init_65 : decode cX2_init 65 = .ok (.invokestatic 36, 3) := by decide +kernel
theorem dX2_init_68 : decode cX2_init 68 = .ok (.putfield 40, 3) := by decide +kernel
theorem dX2_init_71 : decode cX2_init 71 = .ok (.aload_n 0, 1) := by decide +kernel
theorem dX2_init_72 : decode cX2_init 72 = .ok (.aload_n 0, 1) := by decide +kernel
theorem dX2_init_73 : decode cX2_init 73 = .ok (.getfield 40, 3) := by decide +kernel
theorem dX2_init_76 : decode cX2_init 76 = .ok (.iconst 0, 1) := by decide +kernel
theorem dX2_init_77 : decode cX2_init 77 = .ok (.invokestatic 43, 3) := by decide +kernel
theorem dX2_init_80 : decode cX2_init 80 = .ok (.putfield 46, 3) := by decide +kernel
theorem dX2_init_83 : decode cX2_init 83 = .ok (.aload_n 0, 1) := by decide +kernel
theorem dX2_init_84 : decode cX2_init 84 = .ok (.invokevirtual 49, 3) := by decide +kernel
theorem dX2_init_87 : decode cX2_init 87 = .ok (.return_, 1) := by decide +kernel
theorem dX2_pillar_0 : decode cX2_pillar 0 = .ok (.aload_n 0, 1) := by decide +kernel
theorem dX2_pillar_1 : decode cX2_pillar 1 = .ok (.iload_n 1, 1) := by decide +kernel
theorem dX2_pillar_2 : decode cX2_pillar 2 = .ok (.iload_n 2, 1) := by decide +kernel
theorem dX2_pillar_3 : decode cX2_pillar 3 = .ok (.invokevirtual 52, 3) := by decide +kernel
theorem dX2_pillar_6 : decode cX2_pillar 6 = .ok (.iload_n 1, 1) := by decide +kernel
theorem dX2_pillar_7 : decode cX2_pillar 7 = .ok (.iload_n 2, 1) := by decide +kernel
theorem dX2_pillar_8 : decode cX2_pillar 8 = .ok (.invokestatic 36, 3) := by decide +kernel
theorem dX2_pillar_11 : decode cX2_pillar 11 = .ok (.istore_n 3, 1) := by decide +kernel
theorem dX2_pillar_12 : decode cX2_pillar 12 = .ok (.aload_n 0, 1) := by decide +kernel
theorem dX2_pillar_13 : decode cX2_pillar 13 = .ok (.getfield 46, 3) := by decide +kernel
theorem dX2_pillar_16 : decode cX2_pillar 16 = .ok (.aload_n 0, 1) := by decide +kernel
theorem dX2_pillar_17 : decode cX2_pillar 17 = .ok (.getfield 40, 3) := by decide +kernel
theorem dX2_pillar_20 : decode cX2_pillar 20 = .ok (.iconst 0, 1) := by decide +kernel
theorem dX2_pillar_21 : decode cX2_pillar 21 = .ok (.invokestatic 43, 3) := by decide +kernel
theorem dX2_pillar_24 : decode cX2_pillar 24 = .ok (.if_icmp .eq 7, 3) := by decide +kernel
theorem dX2_pillar_27 : decode cX2_pillar 27 = .ok (.iconst 1, 1) := by decide +kernel
theorem dX2_pillar_28 : decode cX2_pillar 28 = .ok (.goto 4, 3) := by decide +kernel
theorem dX2_pillar_31 : decode cX2_pillar 31 = .ok (.iconst 0, 1) := by decide +kernel
theorem dX2_pillar_32 : decode cX2_pillar 32 = .ok (.istore 4, 2) := by decide +kernel
theorem dX2_pillar_34 : decode cX2_pillar 34 = .ok (.iload 4, 2) := by decide +kernel
theorem dX2_pillar_36 : decode cX2_pillar 36 = .ok (.ifCond .ne 32, 3) := by decide +kernel
theorem dX2_pillar_39 : decode cX2_pillar 39 = .ok (.iload_n 3, 1) := by decide +kernel
theorem dX2_pillar_40 : decode cX2_pillar 40 = .ok (.aload_n 0, 1) := by decide +kernel
theorem dX2_pillar_41 : decode cX2_pillar 41 = .ok (.getfield 40, 3) := by decide +kernel
theorem dX2_pillar_44 : decode cX2_pillar 44 = .ok (.if_icmp .eq 24, 3) := by decide +kernel
theorem dX2_pillar_47 : decode cX2_pillar 47 = .ok (.aload_n 0, 1) := by decide +kernel
theorem dX2_pillar_48 : decode cX2_pillar 48 = .ok (.getfield 28, 3) := by decide +kernel
theorem dX2_pillar_51 : decode cX2_pillar 51 = .ok (.invokevirtual 55, 3) := by decide +kernel
theorem dX2_pillar_54 : decode cX2_pillar 54 = .ok (.ifCond .ne 14, 3) := by decide +kernel
theorem dX2_pillar_57 : decode cX2_pillar 57 = .ok (.aload_n 0, 1) := by decide +kernel
theorem dX2_pillar_58 : decode cX2_pillar 58 = .ok (.getfield 28, 3) := by decide +kernel
theorem dX2_pillar_61 : decode cX2_pillar 61 = .ok (.iload_n 3, 1) := by decide +kernel
theorem dX2_pillar_62 : decode cX2_pillar 62 = .ok (.invokevirtual 59, 3) := by decide +kernel
theorem dX2_pillar_65 : decode cX2_pillar 65 = .ok (.ifCond .eq 13, 3) := by decide +kernel
theorem dX2_pillar_68 : decode cX2_pillar 68 = .ok (.new 63, 3) := by decide +kernel
theorem dX2_pillar_71 : decode cX2_pillar 71 = .ok (.dup, 1) := by decide +kernel
theorem dX2_pillar_72 : decode cX2_pillar 72 = .ok (.ldc 65, 2) := by decide +kernel
theorem dX2_pillar_74 : decode cX2_pillar 74 = .ok (.invokespecial 67, 3) := by decide +kernel
theorem dX2_pillar_77 : decode cX2_pillar 77 = .ok (.athrow, 1) := by decide +kernel
theorem dX2_pillar_78 : decode cX2_pillar 78 = .ok (.aload_n 0, 1) := by decide +kernel
theorem dX2_pillar_79 : decode cX2_pillar 79 = .ok (.getfield 28, 3) := by decide +kernel
theorem dX2_pillar_82 : decode cX2_pillar 82 = .ok (.iload_n 3, 1) := by decide +kernel
theorem dX2_pillar_83 : decode cX2_pillar 83 = .ok (.invokevirtual 70, 3) := by decide +kernel
theorem dX2_pillar_86 : decode cX2_pillar 86 = .ok (.istore 5, 2) := by decide +kernel
theorem dX2_pillar_88 : decode cX2_pillar 88 = .ok (.aload_n 0, 1) := by decide +kernel
theorem dX2_pillar_89 : decode cX2_pillar 89 = .ok (.invokevirtual 49, 3) := by decide +kernel
theorem dX2_pillar_92 : decode cX2_pillar 92 = .ok (.iload 5, 2) := by decide +kernel
theorem dX2_pillar_94 : decode cX2_pillar 94 = .ok (.ireturn, 1) := by decide +kernel
theorem dX2_base_0 : decode cX2_base 0 = .ok (.aload_n 0, 1) := by decide +kernel
theorem dX2_base_1 : decode cX2_base 1 = .ok (.iload_n 1, 1) := by decide +kernel
theorem dX2_base_2 : decode cX2_base 2 = .ok (.iload_n 2, 1) := by decide +kernel
theorem dX2_base_3 : decode cX2_base 3 = .ok (.invokevirtual 52, 3) := by decide +kernel
theorem dX2_base_6 : decode cX2_base 6 = .ok (.iload_n 1, 1) := by decide +kernel
theorem dX2_base_7 : decode cX2_base 7 = .ok (.iload_n 2, 1) := by decide +kernel
theorem dX2_base_8 : decode cX2_base 8 = .ok (.invokestatic 36, 3) := by decide +kernel
theorem dX2_base_11 : decode cX2_base 11 = .ok (.istore_n 3, 1) := by decide +kernel
theorem dX2_base_12 : decode cX2_base 12 = .ok (.aload_n 0, 1) := by decide +kernel
theorem dX2_base_13 : decode cX2_base 13 = .ok (.getfield 28, 3) := by decide +kernel
theorem dX2_base_16 : decode cX2_base 16 = .ok (.iload_n 3, 1) := by decide +kernel
theorem dX2_base_17 : decode cX2_base 17 = .ok (.invokevirtual 59, 3) := by decide +kernel
theorem dX2_base_20 : decode cX2_base 20 = .ok (.ifCond .eq 13, 3) := by decide +kernel
theorem dX2_base_23 : decode cX2_base 23 = .ok (.new 63, 3) := by decide +kernel
theorem dX2_base_26 : decode cX2_base 26 = .ok (.dup, 1) := by decide +kernel
theorem dX2_base_27 : decode cX2_base 27 = .ok (.ldc 74, 2) := by decide +kernel
theorem dX2_base_29 : decode cX2_base 29 = .ok (.invokespecial 67, 3) := by decide +kernel
theorem dX2_base_32 : decode cX2_base 32 = .ok (.athrow, 1) := by decide +kernel
theorem dX2_base_33 : decode cX2_base 33 = .ok (.aload_n 0, 1) := by decide +kernel
theorem dX2_base_34 : decode cX2_base 34 = .ok (.iload_n 3, 1) := by decide +kernel
theorem dX2_base_35 : decode cX2_base 35 = .ok (.putfield 40, 3) := by decide +kernel
theorem dX2_base_38 : decode cX2_base 38 = .ok (.aload_n 0, 1) := by decide +kernel
theorem dX2_base_39 : decode cX2_base 39 = .ok (.aload_n 0, 1) := by decide +kernel
theorem dX2_base_40 : decode cX2_base 40 = .ok (.getfield 40, 3) := by decide +kernel
theorem dX2_base_43 : decode cX2_base 43 = .ok (.iconst 0, 1) := by decide +kernel
theorem dX2_base_44 : decode cX2_base 44 = .ok (.invokestatic 43, 3) := by decide +kernel
theorem dX2_base_47 : decode cX2_base 47 = .ok (.putfield 46, 3) := by decide +kernel
theorem dX2_base_50 : decode cX2_base 50 = .ok (.aload_n 0, 1) := by decide +kernel
theorem dX2_base_51 : decode cX2_base 51 = .ok (.iconst 0, 1) := by decide +kernel
theorem dX2_base_52 : decode cX2_base 52 = .ok (.putfield 76, 3) := by decide +kernel
theorem dX2_base_55 : decode cX2_base 55 = .ok (.aload_n 0, 1) := by decide +kernel
theorem dX2_base_56 : decode cX2_base 56 = .ok (.invokevirtual 49, 3) := by decide +kernel
theorem dX2_base_59 : decode cX2_base 59 = .ok (.return_, 1) := by decide +kernel
theorem dX2_step_0 : decode cX2_step 0 = .ok (.iload_n 1, 1) := by decide +kernel
theorem dX2_step_1 : decode cX2_step 1 = .ok (.ifCond .lt 8, 3) := by decide +kernel
theorem dX2_step_4 : decode cX2_step 4 = .ok (.iload_n 1, 1) := by decide +kernel
theorem dX2_step_5 : decode cX2_step 5 = .ok (.iconst 4, 1) := by decide +kernel
theorem dX2_step_6 : decode cX2_step 6 = .ok (.if_icmp .lt 13, 3) := by decide +kernel
theorem dX2_step_9 : decode cX2_step 9 = .ok (.new 79, 3) := by decide +kernel
theorem dX2_step_12 : decode cX2_step 12 = .ok (.dup, 1) := by decide +kernel
theorem dX2_step_13 : decode cX2_step 13 = .ok (.ldc 81, 2) := by decide +kernel
theorem dX2_step_15 : decode cX2_step 15 = .ok (.invokespecial 83, 3) := by decide +kernel
theorem dX2_step_18 : decode cX2_step 18 = .ok (.athrow, 1) := by decide +kernel
theorem dX2_step_19 : decode cX2_step 19 = .ok (.aload_n 0, 1) := by decide +kernel
theorem dX2_step_20 : decode cX2_step 20 = .ok (.aload_n 0, 1) := by decide +kernel
theorem dX2_step_21 : decode cX2_step 21 = .ok (.getfield 46, 3) := by decide +kernel
theorem dX2_step_24 : decode cX2_step 24 = .ok (.iload_n 1, 1) := by decide +kernel
theorem dX2_step_25 : decode cX2_step 25 = .ok (.invokevirtual 84, 3) := by decide +kernel
theorem dX2_step_28 : decode cX2_step 28 = .ok (.istore_n 2, 1) := by decide +kernel
theorem dX2_step_29 : decode cX2_step 29 = .ok (.iload_n 2, 1) := by decide +kernel
theorem dX2_step_30 : decode cX2_step 30 = .ok (.iconst (-1), 1) := by decide +kernel
theorem dX2_step_31 : decode cX2_step 31 = .ok (.if_icmp .ne 13, 3) := by decide +kernel
theorem dX2_step_34 : decode cX2_step 34 = .ok (.new 63, 3) := by decide +kernel
theorem dX2_step_37 : decode cX2_step 37 = .ok (.dup, 1) := by decide +kernel
theorem dX2_step_38 : decode cX2_step 38 = .ok (.ldc 87, 2) := by decide +kernel
theorem dX2_step_40 : decode cX2_step 40 = .ok (.invokespecial 67, 3) := by decide +kernel
theorem dX2_step_43 : decode cX2_step 43 = .ok (.athrow, 1) := by decide +kernel
theorem dX2_step_44 : decode cX2_step 44 = .ok (.aload_n 0, 1) := by decide +kernel
theorem dX2_step_45 : decode cX2_step 45 = .ok (.iload_n 2, 1) := by decide +kernel
theorem dX2_step_46 : decode cX2_step 46 = .ok (.putfield 46, 3) := by decide +kernel
theorem dX2_step_49 : decode cX2_step 49 = .ok (.aload_n 0, 1) := by decide +kernel
theorem dX2_step_50 : decode cX2_step 50 = .ok (.dup, 1) := by decide +kernel
theorem dX2_step_51 : decode cX2_step 51 = .ok (.getfield 76, 3) := by decide +kernel
theorem dX2_step_54 : decode cX2_step 54 = .ok (.iconst 1, 1) := by decide +kernel
theorem dX2_step_55 : decode cX2_step 55 = .ok (.iadd, 1) := by decide +kernel
theorem dX2_step_56 : decode cX2_step 56 = .ok (.putfield 76, 3) := by decide +kernel
theorem dX2_step_59 : decode cX2_step 59 = .ok (.aload_n 0, 1) := by decide +kernel
theorem dX2_step_60 : decode cX2_step 60 = .ok (.invokevirtual 89, 3) := by decide +kernel
theorem dX2_step_63 : decode cX2_step 63 = .ok (.ireturn, 1) := by decide +kernel
theorem dX2_go_0 : decode cX2_go 0 = .ok (.aload_n 0, 1) := by decide +kernel
theorem dX2_go_1 : decode cX2_go 1 = .ok (.iload_n 1, 1) := by decide +kernel
theorem dX2_go_2 : decode cX2_go 2 = .ok (.iload_n 2, 1) := by decide +kernel
theorem dX2_go_3 : decode cX2_go 3 = .ok (.invokevirtual 52, 3) := by decide +kernel
theorem dX2_go_6 : decode cX2_go 6 = .ok (.aload_n 0, 1) := by decide +kernel
theorem dX2_go_7 : decode cX2_go 7 = .ok (.iload_n 1, 1) := by decide +kernel
theorem dX2_go_8 : decode cX2_go 8 = .ok (.iload_n 2, 1) := by decide +kernel
theorem dX2_go_9 : decode cX2_go 9 = .ok (.invokestatic 36, 3) := by decide +kernel
theorem dX2_go_12 : decode cX2_go 12 = .ok (.invokevirtual 93, 3) := by decide +kernel
theorem dX2_go_15 : decode cX2_go 15 = .ok (.istore_n 3, 1) := by decide +kernel
theorem dX2_go_16 : decode cX2_go 16 = .ok (.iload_n 3, 1) := by decide +kernel
theorem dX2_go_17 : decode cX2_go 17 = .ok (.iconst (-1), 1) := by decide +kernel
theorem dX2_go_18 : decode cX2_go 18 = .ok (.if_icmp .ne 13, 3) := by decide +kernel
theorem dX2_go_21 : decode cX2_go 21 = .ok (.new 96, 3) := by decide +kernel
theorem dX2_go_24 : decode cX2_go 24 = .ok (.dup, 1) := by decide +kernel
theorem dX2_go_25 : decode cX2_go 25 = .ok (.ldc 98, 2) := by decide +kernel
theorem dX2_go_27 : decode cX2_go 27 = .ok (.invokespecial 100, 3) := by decide +kernel
theorem dX2_go_30 : decode cX2_go 30 = .ok (.athrow, 1) := by decide +kernel
theorem dX2_go_31 : decode cX2_go 31 = .ok (.aload_n 0, 1) := by decide +kernel
theorem dX2_go_32 : decode cX2_go 32 = .ok (.getfield 16, 3) := by decide +kernel
theorem dX2_go_35 : decode cX2_go 35 = .ok (.iload_n 3, 1) := by decide +kernel
theorem dX2_go_36 : decode cX2_go 36 = .ok (.invokevirtual 101, 3) := by decide +kernel
theorem dX2_go_39 : decode cX2_go 39 = .ok (.istore 4, 2) := by decide +kernel
theorem dX2_go_41 : decode cX2_go 41 = .ok (.aload_n 0, 1) := by decide +kernel
theorem dX2_go_42 : decode cX2_go 42 = .ok (.iload_n 3, 1) := by decide +kernel
theorem dX2_go_43 : decode cX2_go 43 = .ok (.putfield 46, 3) := by decide +kernel
theorem dX2_go_46 : decode cX2_go 46 = .ok (.aload_n 0, 1) := by decide +kernel
theorem dX2_go_47 : decode cX2_go 47 = .ok (.dup, 1) := by decide +kernel
theorem dX2_go_48 : decode cX2_go 48 = .ok (.getfield 76, 3) := by decide +kernel
theorem dX2_go_51 : decode cX2_go 51 = .ok (.iload 4, 2) := by decide +kernel
theorem dX2_go_53 : decode cX2_go 53 = .ok (.iadd, 1) := by decide +kernel
theorem dX2_go_54 : decode cX2_go 54 = .ok (.putfield 76, 3) := by decide +kernel
theorem dX2_go_57 : decode cX2_go 57 = .ok (.iload 4, 2) := by decide +kernel
theorem dX2_go_59 : decode cX2_go 59 = .ok (.ireturn, 1) := by decide +kernel
theorem dX2_back_0 : decode cX2_back 0 = .ok (.iload_n 1, 1) := by decide +kernel
theorem dX2_back_1 : decode cX2_back 1 = .ok (.iconst 1, 1) := by decide +kernel
theorem dX2_back_2 : decode cX2_back 2 = .ok (.if_icmp .lt 9, 3) := by decide +kernel
theorem dX2_back_5 : decode cX2_back 5 = .ok (.iload_n 1, 1) := by decide +kernel
theorem dX2_back_6 : decode cX2_back 6 = .ok (.bipush 60, 2) := by decide +kernel
theorem dX2_back_8 : decode cX2_back 8 = .ok (.if_icmp .le 13, 3) := by decide +kernel
theorem dX2_back_11 : decode cX2_back 11 = .ok (.new 79, 3) := by decide +kernel
theorem dX2_back_14 : decode cX2_back 14 = .ok (.dup, 1) := by decide +kernel
theorem dX2_back_15 : decode cX2_back 15 = .ok (.ldc 104, 2) := by decide +kernel
theorem dX2_back_17 : decode cX2_back 17 = .ok (.invokespecial 83, 3) := by decide +kernel
theorem dX2_back_20 : decode cX2_back 20 = .ok (.athrow, 1) := by decide +kernel
theorem dX2_back_21 : decode cX2_back 21 = .ok (.iload_n 1, 1) := by decide +kernel
theorem dX2_back_22 : decode cX2_back 22 = .ok (.aload_n 0, 1) := by decide +kernel
theorem dX2_back_23 : decode cX2_back 23 = .ok (.invokevirtual 89, 3) := by decide +kernel
theorem dX2_back_26 : decode cX2_back 26 = .ok (.invokestatic 106, 3) := by decide +kernel
theorem dX2_back_29 : decode cX2_back 29 = .ok (.istore_n 2, 1) := by decide +kernel
theorem dX2_back_30 : decode cX2_back 30 = .ok (.aload_n 0, 1) := by decide +kernel
theorem dX2_back_31 : decode cX2_back 31 = .ok (.aload_n 0, 1) := by decide +kernel
theorem dX2_back_32 : decode cX2_back 32 = .ok (.iload_n 2, 1) := by decide +kernel
theorem dX2_back_33 : decode cX2_back 33 = .ok (.invokevirtual 111, 3) := by decide +kernel
theorem dX2_back_36 : decode cX2_back 36 = .ok (.putfield 46, 3) := by decide +kernel
theorem dX2_back_39 : decode cX2_back 39 = .ok (.aload_n 0, 1) := by decide +kernel
theorem dX2_back_40 : decode cX2_back 40 = .ok (.dup, 1) := by decide +kernel
theorem dX2_back_41 : decode cX2_back 41 = .ok (.getfield 76, 3) := by decide +kernel
theorem dX2_back_44 : decode cX2_back 44 = .ok (.iload_n 2, 1) := by decide +kernel
theorem dX2_back_45 : decode cX2_back 45 = .ok (.iadd, 1) := by decide +kernel
theorem dX2_back_46 : decode cX2_back 46 = .ok (.putfield 76, 3) := by decide +kernel
theorem dX2_back_49 : decode cX2_back 49 = .ok (.iload_n 2, 1) := by decide +kernel
theorem dX2_back_50 : decode cX2_back 50 = .ok (.ireturn, 1) := by decide +kernel
theorem dX2_column_0 : decode cX2_column 0 = .ok (.aload_n 0, 1) := by decide +kernel
theorem dX2_column_1 : decode cX2_column 1 = .ok (.getfield 46, 3) := by decide +kernel
theorem dX2_column_4 : decode cX2_column 4 = .ok (.invokestatic 114, 3) := by decide +kernel
theorem dX2_column_7 : decode cX2_column 7 = .ok (.invokestatic 117, 3) := by decide +kernel
theorem dX2_column_10 : decode cX2_column 10 = .ok (.ireturn, 1) := by decide +kernel
theorem dX2_row_0 : decode cX2_row 0 = .ok (.aload_n 0, 1) := by decide +kernel
theorem dX2_row_1 : decode cX2_row 1 = .ok (.getfield 46, 3) := by decide +kernel
theorem dX2_row_4 : decode cX2_row 4 = .ok (.invokestatic 114, 3) := by decide +kernel
theorem dX2_row_7 : decode cX2_row 7 = .ok (.invokestatic 120, 3) := by decide +kernel
theorem dX2_row_10 : decode cX2_row 10 = .ok (.ireturn, 1) := by decide +kernel
theorem dX2_letters_0 : decode cX2_letters 0 = .ok (.aload_n 0, 1) := by decide +kernel
theorem dX2_letters_1 : decode cX2_letters 1 = .ok (.getfield 46, 3) := by decide +kernel
theorem dX2_letters_4 : decode cX2_letters 4 = .ok (.invokestatic 123, 3) := by decide +kernel
theorem dX2_letters_7 : decode cX2_letters 7 = .ok (.invokestatic 126, 3) := by decide +kernel
theorem dX2_letters_10 : decode cX2_letters 10 = .ok (.ireturn, 1) := by decide +kernel
theorem dX2_letterAt_0 : decode cX2_letterAt 0 = .ok (.aload_n 0, 1) := by decide +kernel
theorem dX2_letterAt_1 : decode cX2_letterAt 1 = .ok (.invokevirtual 129, 3) := by decide +kernel
theorem dX2_letterAt_4 : decode cX2_letterAt 4 = .ok (.istore_n 2, 1) := by decide +kernel
theorem dX2_letterAt_5 : decode cX2_letterAt 5 = .ok (.iload_n 1, 1) := by decide +kernel
theorem dX2_letterAt_6 : decode cX2_letterAt 6 = .ok (.ifCond .lt 8, 3) := by decide +kernel
theorem dX2_letterAt_9 : decode cX2_letterAt 9 = .ok (.iload_n 1, 1) := by decide +kernel
theorem dX2_letterAt_10 : decode cX2_letterAt 10 = .ok (.iload_n 2, 1) := by decide +kernel
theorem dX2_letterAt_11 : decode cX2_letterAt 11 = .ok (.if_icmp .lt 13, 3) := by decide +kernel
theorem dX2_letterAt_14 : decode cX2_letterAt 14 = .ok (.new 132, 3) := by decide +kernel
theorem dX2_letterAt_17 : decode cX2_letterAt 17 = .ok (.dup, 1) := by decide +kernel
theorem dX2_letterAt_18 : decode cX2_letterAt 18 = .ok (.ldc 134, 2) := by decide +kernel
theorem dX2_letterAt_20 : decode cX2_letterAt 20 = .ok (.invokespecial 136, 3) := by decide +kernel
theorem dX2_letterAt_23 : decode cX2_letterAt 23 = .ok (.athrow, 1) := by decide +kernel
theorem dX2_letterAt_24 : decode cX2_letterAt 24 = .ok (.aload_n 0, 1) := by decide +kernel
theorem dX2_letterAt_25 : decode cX2_letterAt 25 = .ok (.getfield 46, 3) := by decide +kernel
theorem dX2_letterAt_28 : decode cX2_letterAt 28 = .ok (.invokestatic 123, 3) := by decide +kernel
theorem dX2_letterAt_31 : decode cX2_letterAt 31 = .ok (.istore_n 3, 1) := by decide +kernel
theorem dX2_letterAt_32 : decode cX2_letterAt 32 = .ok (.iload_n 2, 1) := by decide +kernel
theorem dX2_letterAt_33 : decode cX2_letterAt 33 = .ok (.iconst 1, 1) := by decide +kernel
theorem dX2_letterAt_34 : decode cX2_letterAt 34 = .ok (.isub, 1) := by decide +kernel
theorem dX2_letterAt_35 : decode cX2_letterAt 35 = .ok (.istore 4, 2) := by decide +kernel
theorem dX2_letterAt_37 : decode cX2_letterAt 37 = .ok (.iload 4, 2) := by decide +kernel
theorem dX2_letterAt_39 : decode cX2_letterAt 39 = .ok (.iload_n 1, 1) := by decide +kernel
theorem dX2_letterAt_40 : decode cX2_letterAt 40 = .ok (.if_icmp .le 14, 3) := by decide +kernel
theorem dX2_letterAt_43 : decode cX2_letterAt 43 = .ok (.iload_n 3, 1) := by decide +kernel
theorem dX2_letterAt_44 : decode cX2_letterAt 44 = .ok (.bipush 7, 2) := by decide +kernel
theorem dX2_letterAt_46 : decode cX2_letterAt 46 = .ok (.idiv, 1) := by decide +kernel
theorem dX2_letterAt_47 : decode cX2_letterAt 47 = .ok (.istore_n 3, 1) := by decide +kernel
theorem dX2_letterAt_48 : decode cX2_letterAt 48 = .ok (.iinc 4 (-1), 3) := by decide +kernel
theorem dX2_letterAt_51 : decode cX2_letterAt 51 = .ok (.goto (-14), 3) := by decide +kernel
theorem dX2_letterAt_54 : decode cX2_letterAt 54 = .ok (.iload_n 3, 1) := by decide +kernel
theorem dX2_letterAt_55 : decode cX2_letterAt 55 = .ok (.invokestatic 137, 3) := by decide +kernel
theorem dX2_letterAt_58 : decode cX2_letterAt 58 = .ok (.ireturn, 1) := by decide +kernel
theorem dX2_length_0 : decode cX2_length 0 = .ok (.aload_n 0, 1) := by decide +kernel
theorem dX2_length_1 : decode cX2_length 1 = .ok (.getfield 12, 3) := by decide +kernel
theorem dX2_length_4 : decode cX2_length 4 = .ok (.aload_n 0, 1) := by decide +kernel
theorem dX2_length_5 : decode cX2_length 5 = .ok (.getfield 46, 3) := by decide +kernel
theorem dX2_length_8 : decode cX2_length 8 = .ok (.invokevirtual 101, 3) := by decide +kernel
theorem dX2_length_11 : decode cX2_length 11 = .ok (.ireturn, 1) := by decide +kernel
theorem dX2_slack_0 : decode cX2_slack 0 = .ok (.aload_n 0, 1) := by decide +kernel
theorem dX2_slack_1 : decode cX2_slack 1 = .ok (.getfield 32, 3) := by decide +kernel
theorem dX2_slack_4 : decode cX2_slack 4 = .ok (.aload_n 0, 1) := by decide +kernel
theorem dX2_slack_5 : decode cX2_slack 5 = .ok (.invokevirtual 89, 3) := by decide +kernel
theorem dX2_slack_8 : decode cX2_slack 8 = .ok (.isub, 1) := by decide +kernel
theorem dX2_slack_9 : decode cX2_slack 9 = .ok (.ireturn, 1) := by decide +kernel
theorem dX2_steps_0 : decode cX2_steps 0 = .ok (.aload_n 0, 1) := by decide +kernel
theorem dX2_steps_1 : decode cX2_steps 1 = .ok (.getfield 76, 3) := by decide +kernel
theorem dX2_steps_4 : decode cX2_steps 4 = .ok (.ireturn, 1) := by decide +kernel
theorem dX2_lengthByTrying_0 : decode cX2_lengthByTrying 0 = .ok (.iload_n 1, 1) := by decide +kernel
theorem dX2_lengthByTrying_1 : decode cX2_lengthByTrying 1 = .ok (.ifCond .lt 9, 3) := by decide +kernel
theorem dX2_lengthByTrying_4 : decode cX2_lengthByTrying 4 = .ok (.iload_n 1, 1) := by decide +kernel
theorem dX2_lengthByTrying_5 : decode cX2_lengthByTrying 5 = .ok (.bipush 8, 2) := by decide +kernel
theorem dX2_lengthByTrying_7 : decode cX2_lengthByTrying 7 = .ok (.if_icmp .le 13, 3) := by decide +kernel
theorem dX2_lengthByTrying_10 : decode cX2_lengthByTrying 10 = .ok (.new 79, 3) := by decide +kernel
theorem dX2_lengthByTrying_13 : decode cX2_lengthByTrying 13 = .ok (.dup, 1) := by decide +kernel
theorem dX2_lengthByTrying_14 : decode cX2_lengthByTrying 14 = .ok (.ldc 140, 2) := by decide +kernel
theorem dX2_lengthByTrying_16 : decode cX2_lengthByTrying 16 = .ok (.invokespecial 83, 3) := by decide +kernel
theorem dX2_lengthByTrying_19 : decode cX2_lengthByTrying 19 = .ok (.athrow, 1) := by decide +kernel
theorem dX2_lengthByTrying_20 : decode cX2_lengthByTrying 20 = .ok (.aload_n 0, 1) := by decide +kernel
theorem dX2_lengthByTrying_21 : decode cX2_lengthByTrying 21 = .ok (.getfield 28, 3) := by decide +kernel
theorem dX2_lengthByTrying_24 : decode cX2_lengthByTrying 24 = .ok (.aload_n 0, 1) := by decide +kernel
theorem dX2_lengthByTrying_25 : decode cX2_lengthByTrying 25 = .ok (.getfield 40, 3) := by decide +kernel
theorem dX2_lengthByTrying_28 : decode cX2_lengthByTrying 28 = .ok (.iconst 0, 1) := by decide +kernel
theorem dX2_lengthByTrying_29 : decode cX2_lengthByTrying 29 = .ok (.invokestatic 43, 3) := by decide +kernel
theorem dX2_lengthByTrying_32 : decode cX2_lengthByTrying 32 = .ok (.aload_n 0, 1) := by decide +kernel
theorem dX2_lengthByTrying_33 : decode cX2_lengthByTrying 33 = .ok (.getfield 46, 3) := by decide +kernel
theorem dX2_lengthByTrying_36 : decode cX2_lengthByTrying 36 = .ok (.iconst 0, 1) := by decide +kernel
theorem dX2_lengthByTrying_37 : decode cX2_lengthByTrying 37 = .ok (.iload_n 1, 1) := by decide +kernel
theorem dX2_lengthByTrying_38 : decode cX2_lengthByTrying 38 = .ok (.invokestatic 142, 3) := by decide +kernel
theorem dX2_lengthByTrying_41 : decode cX2_lengthByTrying 41 = .ok (.istore_n 2, 1) := by decide +kernel
theorem dX2_lengthByTrying_42 : decode cX2_lengthByTrying 42 = .ok (.iload_n 2, 1) := by decide +kernel
theorem dX2_lengthByTrying_43 : decode cX2_lengthByTrying 43 = .ok (.iload_n 1, 1) := by decide +kernel
theorem dX2_lengthByTrying_44 : decode cX2_lengthByTrying 44 = .ok (.if_icmp .le 7, 3) := by decide +kernel
theorem dX2_lengthByTrying_47 : decode cX2_lengthByTrying 47 = .ok (.iconst (-1), 1) := by decide +kernel
theorem dX2_lengthByTrying_48 : decode cX2_lengthByTrying 48 = .ok (.goto 4, 3) := by decide +kernel
theorem dX2_lengthByTrying_51 : decode cX2_lengthByTrying 51 = .ok (.iload_n 2, 1) := by decide +kernel
theorem dX2_lengthByTrying_52 : decode cX2_lengthByTrying 52 = .ok (.ireturn, 1) := by decide +kernel
theorem dX2_cableAt_0 : decode cX2_cableAt 0 = .ok (.iload_n 1, 1) := by decide +kernel
theorem dX2_cableAt_1 : decode cX2_cableAt 1 = .ok (.ifCond .lt 11, 3) := by decide +kernel
theorem dX2_cableAt_4 : decode cX2_cableAt 4 = .ok (.iload_n 1, 1) := by decide +kernel
theorem dX2_cableAt_5 : decode cX2_cableAt 5 = .ok (.aload_n 0, 1) := by decide +kernel
theorem dX2_cableAt_6 : decode cX2_cableAt 6 = .ok (.invokevirtual 89, 3) := by decide +kernel
theorem dX2_cableAt_9 : decode cX2_cableAt 9 = .ok (.if_icmp .le 13, 3) := by decide +kernel
theorem dX2_cableAt_12 : decode cX2_cableAt 12 = .ok (.new 132, 3) := by decide +kernel
theorem dX2_cableAt_15 : decode cX2_cableAt 15 = .ok (.dup, 1) := by decide +kernel
theorem dX2_cableAt_16 : decode cX2_cableAt 16 = .ok (.ldc 146, 2) := by decide +kernel
theorem dX2_cableAt_18 : decode cX2_cableAt 18 = .ok (.invokespecial 136, 3) := by decide +kernel
theorem dX2_cableAt_21 : decode cX2_cableAt 21 = .ok (.athrow, 1) := by decide +kernel
theorem dX2_cableAt_22 : decode cX2_cableAt 22 = .ok (.aload_n 0, 1) := by decide +kernel
theorem dX2_cableAt_23 : decode cX2_cableAt 23 = .ok (.iload_n 1, 1) := by decide +kernel
theorem dX2_cableAt_24 : decode cX2_cableAt 24 = .ok (.invokevirtual 111, 3) := by decide +kernel
theorem dX2_cableAt_27 : decode cX2_cableAt 27 = .ok (.invokestatic 114, 3) := by decide +kernel
theorem dX2_cableAt_30 : decode cX2_cableAt 30 = .ok (.istore_n 2, 1) := by decide +kernel
theorem dX2_cableAt_31 : decode cX2_cableAt 31 = .ok (.bipush 10, 2) := by decide +kernel
theorem dX2_cableAt_33 : decode cX2_cableAt 33 = .ok (.iload_n 2, 1) := by decide +kernel
theorem dX2_cableAt_34 : decode cX2_cableAt 34 = .ok (.invokestatic 117, 3) := by decide +kernel
theorem dX2_cableAt_37 : decode cX2_cableAt 37 = .ok (.imul, 1) := by decide +kernel
theorem dX2_cableAt_38 : decode cX2_cableAt 38 = .ok (.iload_n 2, 1) := by decide +kernel
theorem dX2_cableAt_39 : decode cX2_cableAt 39 = .ok (.invokestatic 120, 3) := by decide +kernel
theorem dX2_cableAt_42 : decode cX2_cableAt 42 = .ok (.iadd, 1) := by decide +kernel
theorem dX2_cableAt_43 : decode cX2_cableAt 43 = .ok (.ireturn, 1) := by decide +kernel
theorem dX2_bends_0 : decode cX2_bends 0 = .ok (.iconst 0, 1) := by decide +kernel
theorem dX2_bends_1 : decode cX2_bends 1 = .ok (.istore_n 1, 1) := by decide +kernel
theorem dX2_bends_2 : decode cX2_bends 2 = .ok (.aload_n 0, 1) := by decide +kernel
theorem dX2_bends_3 : decode cX2_bends 3 = .ok (.getfield 46, 3) := by decide +kernel
theorem dX2_bends_6 : decode cX2_bends 6 = .ok (.istore_n 2, 1) := by decide +kernel
theorem dX2_bends_7 : decode cX2_bends 7 = .ok (.aload_n 0, 1) := by decide +kernel
theorem dX2_bends_8 : decode cX2_bends 8 = .ok (.iload_n 2, 1) := by decide +kernel
theorem dX2_bends_9 : decode cX2_bends 9 = .ok (.invokevirtual 148, 3) := by decide +kernel
theorem dX2_bends_12 : decode cX2_bends 12 = .ok (.istore_n 3, 1) := by decide +kernel
theorem dX2_bends_13 : decode cX2_bends 13 = .ok (.aload_n 0, 1) := by decide +kernel
theorem dX2_bends_14 : decode cX2_bends 14 = .ok (.invokevirtual 89, 3) := by decide +kernel
theorem dX2_bends_17 : decode cX2_bends 17 = .ok (.istore 4, 2) := by decide +kernel
theorem dX2_bends_19 : decode cX2_bends 19 = .ok (.iload 4, 2) := by decide +kernel
theorem dX2_bends_21 : decode cX2_bends 21 = .ok (.iconst 1, 1) := by decide +kernel
theorem dX2_bends_22 : decode cX2_bends 22 = .ok (.if_icmp .le 38, 3) := by decide +kernel
theorem dX2_bends_25 : decode cX2_bends 25 = .ok (.aload_n 0, 1) := by decide +kernel
theorem dX2_bends_26 : decode cX2_bends 26 = .ok (.getfield 28, 3) := by decide +kernel
theorem dX2_bends_29 : decode cX2_bends 29 = .ok (.iload_n 2, 1) := by decide +kernel
theorem dX2_bends_30 : decode cX2_bends 30 = .ok (.iload_n 3, 1) := by decide +kernel
theorem dX2_bends_31 : decode cX2_bends 31 = .ok (.invokevirtual 151, 3) := by decide +kernel
theorem dX2_bends_34 : decode cX2_bends 34 = .ok (.istore_n 2, 1) := by decide +kernel
theorem dX2_bends_35 : decode cX2_bends 35 = .ok (.aload_n 0, 1) := by decide +kernel
theorem dX2_bends_36 : decode cX2_bends 36 = .ok (.iload_n 2, 1) := by decide +kernel
theorem dX2_bends_37 : decode cX2_bends 37 = .ok (.invokevirtual 148, 3) := by decide +kernel
theorem dX2_bends_40 : decode cX2_bends 40 = .ok (.istore 5, 2) := by decide +kernel
theorem dX2_bends_42 : decode cX2_bends 42 = .ok (.iload 5, 2) := by decide +kernel
theorem dX2_bends_44 : decode cX2_bends 44 = .ok (.iload_n 3, 1) := by decide +kernel
theorem dX2_bends_45 : decode cX2_bends 45 = .ok (.if_icmp .eq 6, 3) := by decide +kernel
theorem dX2_bends_48 : decode cX2_bends 48 = .ok (.iinc 1 1, 3) := by decide +kernel
theorem dX2_bends_51 : decode cX2_bends 51 = .ok (.iload 5, 2) := by decide +kernel
theorem dX2_bends_53 : decode cX2_bends 53 = .ok (.istore_n 3, 1) := by decide +kernel
theorem dX2_bends_54 : decode cX2_bends 54 = .ok (.iinc 4 (-1), 3) := by decide +kernel
theorem dX2_bends_57 : decode cX2_bends 57 = .ok (.goto (-38), 3) := by decide +kernel
theorem dX2_bends_60 : decode cX2_bends 60 = .ok (.iload_n 1, 1) := by decide +kernel
theorem dX2_bends_61 : decode cX2_bends 61 = .ok (.ireturn, 1) := by decide +kernel
theorem dX2_least_0 : decode cX2_least 0 = .ok (.aload_n 0, 1) := by decide +kernel
theorem dX2_least_1 : decode cX2_least 1 = .ok (.iload_n 1, 1) := by decide +kernel
theorem dX2_least_2 : decode cX2_least 2 = .ok (.iload_n 2, 1) := by decide +kernel
theorem dX2_least_3 : decode cX2_least 3 = .ok (.invokevirtual 52, 3) := by decide +kernel
theorem dX2_least_6 : decode cX2_least 6 = .ok (.aload_n 0, 1) := by decide +kernel
theorem dX2_least_7 : decode cX2_least 7 = .ok (.iload_n 1, 1) := by decide +kernel
theorem dX2_least_8 : decode cX2_least 8 = .ok (.iload_n 2, 1) := by decide +kernel
theorem dX2_least_9 : decode cX2_least 9 = .ok (.invokestatic 36, 3) := by decide +kernel
theorem dX2_least_12 : decode cX2_least 12 = .ok (.invokevirtual 154, 3) := by decide +kernel
theorem dX2_least_15 : decode cX2_least 15 = .ok (.ireturn, 1) := by decide +kernel
theorem dX2_missing_0 : decode cX2_missing 0 = .ok (.aload_n 0, 1) := by decide +kernel
theorem dX2_missing_1 : decode cX2_missing 1 = .ok (.iload_n 1, 1) := by decide +kernel
theorem dX2_missing_2 : decode cX2_missing 2 = .ok (.iload_n 2, 1) := by decide +kernel
theorem dX2_missing_3 : decode cX2_missing 3 = .ok (.invokevirtual 52, 3) := by decide +kernel
theorem dX2_missing_6 : decode cX2_missing 6 = .ok (.aload_n 0, 1) := by decide +kernel
theorem dX2_missing_7 : decode cX2_missing 7 = .ok (.iload_n 1, 1) := by decide +kernel
theorem dX2_missing_8 : decode cX2_missing 8 = .ok (.iload_n 2, 1) := by decide +kernel
theorem dX2_missing_9 : decode cX2_missing 9 = .ok (.invokestatic 36, 3) := by decide +kernel
theorem dX2_missing_12 : decode cX2_missing 12 = .ok (.invokevirtual 154, 3) := by decide +kernel
theorem dX2_missing_15 : decode cX2_missing 15 = .ok (.istore_n 3, 1) := by decide +kernel
theorem dX2_missing_16 : decode cX2_missing 16 = .ok (.iload_n 3, 1) := by decide +kernel
theorem dX2_missing_17 : decode cX2_missing 17 = .ok (.iconst (-1), 1) := by decide +kernel
theorem dX2_missing_18 : decode cX2_missing 18 = .ok (.if_icmp .ne 7, 3) := by decide +kernel
theorem dX2_missing_21 : decode cX2_missing 21 = .ok (.iconst (-1), 1) := by decide +kernel
theorem dX2_missing_22 : decode cX2_missing 22 = .ok (.goto 13, 3) := by decide +kernel
theorem dX2_missing_25 : decode cX2_missing 25 = .ok (.iconst 0, 1) := by decide +kernel
theorem dX2_missing_26 : decode cX2_missing 26 = .ok (.iload_n 3, 1) := by decide +kernel
theorem dX2_missing_27 : decode cX2_missing 27 = .ok (.aload_n 0, 1) := by decide +kernel
theorem dX2_missing_28 : decode cX2_missing 28 = .ok (.getfield 32, 3) := by decide +kernel
theorem dX2_missing_31 : decode cX2_missing 31 = .ok (.isub, 1) := by decide +kernel
theorem dX2_missing_32 : decode cX2_missing 32 = .ok (.invokestatic 157, 3) := by decide +kernel
theorem dX2_missing_35 : decode cX2_missing 35 = .ok (.ireturn, 1) := by decide +kernel
theorem dX2_words_0 : decode cX2_words 0 = .ok (.aload_n 0, 1) := by decide +kernel
theorem dX2_words_1 : decode cX2_words 1 = .ok (.iload_n 1, 1) := by decide +kernel
theorem dX2_words_2 : decode cX2_words 2 = .ok (.iload_n 2, 1) := by decide +kernel
theorem dX2_words_3 : decode cX2_words 3 = .ok (.invokevirtual 52, 3) := by decide +kernel
theorem dX2_words_6 : decode cX2_words 6 = .ok (.iload_n 1, 1) := by decide +kernel
theorem dX2_words_7 : decode cX2_words 7 = .ok (.iload_n 2, 1) := by decide +kernel
theorem dX2_words_8 : decode cX2_words 8 = .ok (.invokestatic 36, 3) := by decide +kernel
theorem dX2_words_11 : decode cX2_words 11 = .ok (.istore_n 3, 1) := by decide +kernel
theorem dX2_words_12 : decode cX2_words 12 = .ok (.iconst 0, 1) := by decide +kernel
theorem dX2_words_13 : decode cX2_words 13 = .ok (.istore 4, 2) := by decide +kernel
theorem dX2_words_15 : decode cX2_words 15 = .ok (.iconst 0, 1) := by decide +kernel
theorem dX2_words_16 : decode cX2_words 16 = .ok (.istore 5, 2) := by decide +kernel
theorem dX2_words_18 : decode cX2_words 18 = .ok (.iload 5, 2) := by decide +kernel
theorem dX2_words_20 : decode cX2_words 20 = .ok (.sipush 343, 3) := by decide +kernel
theorem dX2_words_23 : decode cX2_words 23 = .ok (.if_icmp .ge 32, 3) := by decide +kernel
theorem dX2_words_26 : decode cX2_words 26 = .ok (.aload_n 0, 1) := by decide +kernel
theorem dX2_words_27 : decode cX2_words 27 = .ok (.aload_n 0, 1) := by decide +kernel
theorem dX2_words_28 : decode cX2_words 28 = .ok (.getfield 12, 3) := by decide +kernel
theorem dX2_words_31 : decode cX2_words 31 = .ok (.iload_n 3, 1) := by decide +kernel
theorem dX2_words_32 : decode cX2_words 32 = .ok (.iload 5, 2) := by decide +kernel
theorem dX2_words_34 : decode cX2_words 34 = .ok (.invokestatic 43, 3) := by decide +kernel
theorem dX2_words_37 : decode cX2_words 37 = .ok (.invokevirtual 101, 3) := by decide +kernel
theorem dX2_words_40 : decode cX2_words 40 = .ok (.invokevirtual 160, 3) := by decide +kernel
theorem dX2_words_43 : decode cX2_words 43 = .ok (.ifCond .eq 6, 3) := by decide +kernel
theorem dX2_words_46 : decode cX2_words 46 = .ok (.iinc 4 1, 3) := by decide +kernel
theorem dX2_words_49 : decode cX2_words 49 = .ok (.iinc 5 1, 3) := by decide +kernel
theorem dX2_words_52 : decode cX2_words 52 = .ok (.goto (-34), 3) := by decide +kernel
theorem dX2_words_55 : decode cX2_words 55 = .ok (.iload 4, 2) := by decide +kernel
theorem dX2_words_57 : decode cX2_words 57 = .ok (.ireturn, 1) := by decide +kernel
theorem dX2_squares_0 : decode cX2_squares 0 = .ok (.iconst 0, 1) := by decide +kernel
theorem dX2_squares_1 : decode cX2_squares 1 = .ok (.istore_n 1, 1) := by decide +kernel
theorem dX2_squares_2 : decode cX2_squares 2 = .ok (.iconst 0, 1) := by decide +kernel
theorem dX2_squares_3 : decode cX2_squares 3 = .ok (.istore_n 2, 1) := by decide +kernel
theorem dX2_squares_4 : decode cX2_squares 4 = .ok (.iload_n 2, 1) := by decide +kernel
theorem dX2_squares_5 : decode cX2_squares 5 = .ok (.bipush 49, 2) := by decide +kernel
theorem dX2_squares_7 : decode cX2_squares 7 = .ok (.if_icmp .ge 24, 3) := by decide +kernel
theorem dX2_squares_10 : decode cX2_squares 10 = .ok (.aload_n 0, 1) := by decide +kernel
theorem dX2_squares_11 : decode cX2_squares 11 = .ok (.aload_n 0, 1) := by decide +kernel
theorem dX2_squares_12 : decode cX2_squares 12 = .ok (.iload_n 2, 1) := by decide +kernel
theorem dX2_squares_13 : decode cX2_squares 13 = .ok (.invokevirtual 154, 3) := by decide +kernel
theorem dX2_squares_16 : decode cX2_squares 16 = .ok (.invokevirtual 160, 3) := by decide +kernel
theorem dX2_squares_19 : decode cX2_squares 19 = .ok (.ifCond .eq 6, 3) := by decide +kernel
theorem dX2_squares_22 : decode cX2_squares 22 = .ok (.iinc 1 1, 3) := by decide +kernel
theorem dX2_squares_25 : decode cX2_squares 25 = .ok (.iinc 2 1, 3) := by decide +kernel
theorem dX2_squares_28 : decode cX2_squares 28 = .ok (.goto (-24), 3) := by decide +kernel
theorem dX2_squares_31 : decode cX2_squares 31 = .ok (.iload_n 1, 1) := by decide +kernel
theorem dX2_squares_32 : decode cX2_squares 32 = .ok (.ireturn, 1) := by decide +kernel
theorem dX2_measureLengths_0 : decode cX2_measureLengths 0 = .ok (.aload_n 0, 1) := by decide +kernel
theorem dX2_measureLengths_1 : decode cX2_measureLengths 1 = .ok (.getfield 12, 3) := by decide +kernel
theorem dX2_measureLengths_4 : decode cX2_measureLengths 4 = .ok (.aload_n 0, 1) := by decide +kernel
theorem dX2_measureLengths_5 : decode cX2_measureLengths 5 = .ok (.getfield 40, 3) := by decide +kernel
theorem dX2_measureLengths_8 : decode cX2_measureLengths 8 = .ok (.iconst 0, 1) := by decide +kernel
theorem dX2_measureLengths_9 : decode cX2_measureLengths 9 = .ok (.invokestatic 43, 3) := by decide +kernel
theorem dX2_measureLengths_12 : decode cX2_measureLengths 12 = .ok (.invokevirtual 163, 3) := by decide +kernel
theorem dX2_measureLengths_15 : decode cX2_measureLengths 15 = .ok (.iconst 0, 1) := by decide +kernel
theorem dX2_measureLengths_16 : decode cX2_measureLengths 16 = .ok (.istore_n 1, 1) := by decide +kernel
theorem dX2_measureLengths_17 : decode cX2_measureLengths 17 = .ok (.iload_n 1, 1) := by decide +kernel
theorem dX2_measureLengths_18 : decode cX2_measureLengths 18 = .ok (.sipush 16807, 3) := by decide +kernel
theorem dX2_measureLengths_21 : decode cX2_measureLengths 21 = .ok (.if_icmp .ge 59, 3) := by decide +kernel
theorem dX2_measureLengths_24 : decode cX2_measureLengths 24 = .ok (.iload_n 1, 1) := by decide +kernel
theorem dX2_measureLengths_25 : decode cX2_measureLengths 25 = .ok (.aload_n 0, 1) := by decide +kernel
theorem dX2_measureLengths_26 : decode cX2_measureLengths 26 = .ok (.getfield 12, 3) := by decide +kernel
theorem dX2_measureLengths_29 : decode cX2_measureLengths 29 = .ok (.invokevirtual 167, 3) := by decide +kernel
theorem dX2_measureLengths_32 : decode cX2_measureLengths 32 = .ok (.if_icmp .ge 48, 3) := by decide +kernel
theorem dX2_measureLengths_35 : decode cX2_measureLengths 35 = .ok (.aload_n 0, 1) := by decide +kernel
theorem dX2_measureLengths_36 : decode cX2_measureLengths 36 = .ok (.getfield 12, 3) := by decide +kernel
theorem dX2_measureLengths_39 : decode cX2_measureLengths 39 = .ok (.iload_n 1, 1) := by decide +kernel
theorem dX2_measureLengths_40 : decode cX2_measureLengths 40 = .ok (.invokevirtual 170, 3) := by decide +kernel
theorem dX2_measureLengths_43 : decode cX2_measureLengths 43 = .ok (.istore_n 2, 1) := by decide +kernel
theorem dX2_measureLengths_44 : decode cX2_measureLengths 44 = .ok (.iconst 0, 1) := by decide +kernel
theorem dX2_measureLengths_45 : decode cX2_measureLengths 45 = .ok (.istore_n 3, 1) := by decide +kernel
theorem dX2_measureLengths_46 : decode cX2_measureLengths 46 = .ok (.iload_n 3, 1) := by decide +kernel
theorem dX2_measureLengths_47 : decode cX2_measureLengths 47 = .ok (.iconst 4, 1) := by decide +kernel
theorem dX2_measureLengths_48 : decode cX2_measureLengths 48 = .ok (.if_icmp .ge 26, 3) := by decide +kernel
theorem dX2_measureLengths_51 : decode cX2_measureLengths 51 = .ok (.aload_n 0, 1) := by decide +kernel
theorem dX2_measureLengths_52 : decode cX2_measureLengths 52 = .ok (.getfield 12, 3) := by decide +kernel
theorem dX2_measureLengths_55 : decode cX2_measureLengths 55 = .ok (.aload_n 0, 1) := by decide +kernel
theorem dX2_measureLengths_56 : decode cX2_measureLengths 56 = .ok (.getfield 28, 3) := by decide +kernel
theorem dX2_measureLengths_59 : decode cX2_measureLengths 59 = .ok (.iload_n 2, 1) := by decide +kernel
theorem dX2_measureLengths_60 : decode cX2_measureLengths 60 = .ok (.iload_n 3, 1) := by decide +kernel
theorem dX2_measureLengths_61 : decode cX2_measureLengths 61 = .ok (.invokevirtual 151, 3) := by decide +kernel
theorem dX2_measureLengths_64 : decode cX2_measureLengths 64 = .ok (.iload_n 2, 1) := by decide +kernel
theorem dX2_measureLengths_65 : decode cX2_measureLengths 65 = .ok (.invokevirtual 173, 3) := by decide +kernel
theorem dX2_measureLengths_68 : decode cX2_measureLengths 68 = .ok (.iinc 3 1, 3) := by decide +kernel
theorem dX2_measureLengths_71 : decode cX2_measureLengths 71 = .ok (.goto (-25), 3) := by decide +kernel
theorem dX2_measureLengths_74 : decode cX2_measureLengths 74 = .ok (.iinc 1 1, 3) := by decide +kernel
theorem dX2_measureLengths_77 : decode cX2_measureLengths 77 = .ok (.goto (-60), 3) := by decide +kernel
theorem dX2_measureLengths_80 : decode cX2_measureLengths 80 = .ok (.return_, 1) := by decide +kernel
theorem dX2_nearestPlaceOf_0 : decode cX2_nearestPlaceOf 0 = .ok (.aload_n 0, 1) := by decide +kernel
theorem dX2_nearestPlaceOf_1 : decode cX2_nearestPlaceOf 1 = .ok (.getfield 16, 3) := by decide +kernel
theorem dX2_nearestPlaceOf_4 : decode cX2_nearestPlaceOf 4 = .ok (.aload_n 0, 1) := by decide +kernel
theorem dX2_nearestPlaceOf_5 : decode cX2_nearestPlaceOf 5 = .ok (.getfield 46, 3) := by decide +kernel
theorem dX2_nearestPlaceOf_8 : decode cX2_nearestPlaceOf 8 = .ok (.invokevirtual 163, 3) := by decide +kernel
theorem dX2_nearestPlaceOf_11 : decode cX2_nearestPlaceOf 11 = .ok (.iconst 0, 1) := by decide +kernel
theorem dX2_nearestPlaceOf_12 : decode cX2_nearestPlaceOf 12 = .ok (.istore_n 2, 1) := by decide +kernel
theorem dX2_nearestPlaceOf_13 : decode cX2_nearestPlaceOf 13 = .ok (.iload_n 2, 1) := by decide +kernel
theorem dX2_nearestPlaceOf_14 : decode cX2_nearestPlaceOf 14 = .ok (.sipush 16807, 3) := by decide +kernel
theorem dX2_nearestPlaceOf_17 : decode cX2_nearestPlaceOf 17 = .ok (.if_icmp .ge 69, 3) := by decide +kernel
theorem dX2_nearestPlaceOf_20 : decode cX2_nearestPlaceOf 20 = .ok (.iload_n 2, 1) := by decide +kernel
theorem dX2_nearestPlaceOf_21 : decode cX2_nearestPlaceOf 21 = .ok (.aload_n 0, 1) := by decide +kernel
theorem dX2_nearestPlaceOf_22 : decode cX2_nearestPlaceOf 22 = .ok (.getfield 16, 3) := by decide +kernel
theorem dX2_nearestPlaceOf_25 : decode cX2_nearestPlaceOf 25 = .ok (.invokevirtual 167, 3) := by decide +kernel
theorem dX2_nearestPlaceOf_28 : decode cX2_nearestPlaceOf 28 = .ok (.if_icmp .ge 58, 3) := by decide +kernel
theorem dX2_nearestPlaceOf_31 : decode cX2_nearestPlaceOf 31 = .ok (.aload_n 0, 1) := by decide +kernel
theorem dX2_nearestPlaceOf_32 : decode cX2_nearestPlaceOf 32 = .ok (.getfield 16, 3) := by decide +kernel
theorem dX2_nearestPlaceOf_35 : decode cX2_nearestPlaceOf 35 = .ok (.iload_n 2, 1) := by decide +kernel
theorem dX2_nearestPlaceOf_36 : decode cX2_nearestPlaceOf 36 = .ok (.invokevirtual 170, 3) := by decide +kernel
theorem dX2_nearestPlaceOf_39 : decode cX2_nearestPlaceOf 39 = .ok (.istore_n 3, 1) := by decide +kernel
theorem dX2_nearestPlaceOf_40 : decode cX2_nearestPlaceOf 40 = .ok (.iload_n 3, 1) := by decide +kernel
theorem dX2_nearestPlaceOf_41 : decode cX2_nearestPlaceOf 41 = .ok (.invokestatic 114, 3) := by decide +kernel
theorem dX2_nearestPlaceOf_44 : decode cX2_nearestPlaceOf 44 = .ok (.iload_n 1, 1) := by decide +kernel
theorem dX2_nearestPlaceOf_45 : decode cX2_nearestPlaceOf 45 = .ok (.if_icmp .ne 5, 3) := by decide +kernel
theorem dX2_nearestPlaceOf_48 : decode cX2_nearestPlaceOf 48 = .ok (.iload_n 3, 1) := by decide +kernel
theorem dX2_nearestPlaceOf_49 : decode cX2_nearestPlaceOf 49 = .ok (.ireturn, 1) := by decide +kernel
theorem dX2_nearestPlaceOf_50 : decode cX2_nearestPlaceOf 50 = .ok (.iconst 0, 1) := by decide +kernel
theorem dX2_nearestPlaceOf_51 : decode cX2_nearestPlaceOf 51 = .ok (.istore 4, 2) := by decide +kernel
theorem dX2_nearestPlaceOf_53 : decode cX2_nearestPlaceOf 53 = .ok (.iload 4, 2) := by decide +kernel
theorem dX2_nearestPlaceOf_55 : decode cX2_nearestPlaceOf 55 = .ok (.iconst 4, 1) := by decide +kernel
theorem dX2_nearestPlaceOf_56 : decode cX2_nearestPlaceOf 56 = .ok (.if_icmp .ge 24, 3) := by decide +kernel
theorem dX2_nearestPlaceOf_59 : decode cX2_nearestPlaceOf 59 = .ok (.aload_n 0, 1) := by decide +kernel
theorem dX2_nearestPlaceOf_60 : decode cX2_nearestPlaceOf 60 = .ok (.getfield 16, 3) := by decide +kernel
theorem dX2_nearestPlaceOf_63 : decode cX2_nearestPlaceOf 63 = .ok (.aload_n 0, 1) := by decide +kernel
theorem dX2_nearestPlaceOf_64 : decode cX2_nearestPlaceOf 64 = .ok (.iload_n 3, 1) := by decide +kernel
theorem dX2_nearestPlaceOf_65 : decode cX2_nearestPlaceOf 65 = .ok (.iload 4, 2) := by decide +kernel
theorem dX2_nearestPlaceOf_67 : decode cX2_nearestPlaceOf 67 = .ok (.invokevirtual 84, 3) := by decide +kernel
theorem dX2_nearestPlaceOf_70 : decode cX2_nearestPlaceOf 70 = .ok (.iload_n 3, 1) := by decide +kernel
theorem dX2_nearestPlaceOf_71 : decode cX2_nearestPlaceOf 71 = .ok (.invokevirtual 173, 3) := by decide +kernel
theorem dX2_nearestPlaceOf_74 : decode cX2_nearestPlaceOf 74 = .ok (.iinc 4 1, 3) := by decide +kernel
theorem dX2_nearestPlaceOf_77 : decode cX2_nearestPlaceOf 77 = .ok (.goto (-24), 3) := by decide +kernel
theorem dX2_nearestPlaceOf_80 : decode cX2_nearestPlaceOf 80 = .ok (.iinc 2 1, 3) := by decide +kernel
theorem dX2_nearestPlaceOf_83 : decode cX2_nearestPlaceOf 83 = .ok (.goto (-70), 3) := by decide +kernel
theorem dX2_nearestPlaceOf_86 : decode cX2_nearestPlaceOf 86 = .ok (.iconst (-1), 1) := by decide +kernel
theorem dX2_nearestPlaceOf_87 : decode cX2_nearestPlaceOf 87 = .ok (.ireturn, 1) := by decide +kernel
theorem dX2_afterStep_0 : decode cX2_afterStep 0 = .ok (.aload_n 0, 1) := by decide +kernel
theorem dX2_afterStep_1 : decode cX2_afterStep 1 = .ok (.getfield 28, 3) := by decide +kernel
theorem dX2_afterStep_4 : decode cX2_afterStep 4 = .ok (.iload_n 1, 1) := by decide +kernel
theorem dX2_afterStep_5 : decode cX2_afterStep 5 = .ok (.iload_n 2, 1) := by decide +kernel
theorem dX2_afterStep_6 : decode cX2_afterStep 6 = .ok (.invokevirtual 151, 3) := by decide +kernel
theorem dX2_afterStep_9 : decode cX2_afterStep 9 = .ok (.istore_n 3, 1) := by decide +kernel
theorem dX2_afterStep_10 : decode cX2_afterStep 10 = .ok (.aload_n 0, 1) := by decide +kernel
theorem dX2_afterStep_11 : decode cX2_afterStep 11 = .ok (.aload_n 0, 1) := by decide +kernel
theorem dX2_afterStep_12 : decode cX2_afterStep 12 = .ok (.getfield 12, 3) := by decide +kernel
theorem dX2_afterStep_15 : decode cX2_afterStep 15 = .ok (.iload_n 3, 1) := by decide +kernel
theorem dX2_afterStep_16 : decode cX2_afterStep 16 = .ok (.invokevirtual 101, 3) := by decide +kernel
theorem dX2_afterStep_19 : decode cX2_afterStep 19 = .ok (.invokevirtual 160, 3) := by decide +kernel
theorem dX2_afterStep_22 : decode cX2_afterStep 22 = .ok (.ifCond .eq 7, 3) := by decide +kernel
theorem dX2_afterStep_25 : decode cX2_afterStep 25 = .ok (.iload_n 3, 1) := by decide +kernel
theorem dX2_afterStep_26 : decode cX2_afterStep 26 = .ok (.goto 4, 3) := by decide +kernel
theorem dX2_afterStep_29 : decode cX2_afterStep 29 = .ok (.iconst (-1), 1) := by decide +kernel
theorem dX2_afterStep_30 : decode cX2_afterStep 30 = .ok (.ireturn, 1) := by decide +kernel
theorem dX2_isWithinLimit_0 : decode cX2_isWithinLimit 0 = .ok (.iload_n 1, 1) := by decide +kernel
theorem dX2_isWithinLimit_1 : decode cX2_isWithinLimit 1 = .ok (.iconst (-1), 1) := by decide +kernel
theorem dX2_isWithinLimit_2 : decode cX2_isWithinLimit 2 = .ok (.if_icmp .eq 15, 3) := by decide +kernel
theorem dX2_isWithinLimit_5 : decode cX2_isWithinLimit 5 = .ok (.iload_n 1, 1) := by decide +kernel
theorem dX2_isWithinLimit_6 : decode cX2_isWithinLimit 6 = .ok (.aload_n 0, 1) := by decide +kernel
theorem dX2_isWithinLimit_7 : decode cX2_isWithinLimit 7 = .ok (.getfield 32, 3) := by decide +kernel
theorem dX2_isWithinLimit_10 : decode cX2_isWithinLimit 10 = .ok (.if_icmp .gt 7, 3) := by decide +kernel
theorem dX2_isWithinLimit_13 : decode cX2_isWithinLimit 13 = .ok (.iconst 1, 1) := by decide +kernel
theorem dX2_isWithinLimit_14 : decode cX2_isWithinLimit 14 = .ok (.goto 4, 3) := by decide +kernel
theorem dX2_isWithinLimit_17 : decode cX2_isWithinLimit 17 = .ok (.iconst 0, 1) := by decide +kernel
theorem dX2_isWithinLimit_18 : decode cX2_isWithinLimit 18 = .ok (.ireturn, 1) := by decide +kernel
theorem dX2_leastLengthOf_0 : decode cX2_leastLengthOf 0 = .ok (.iconst (-1), 1) := by decide +kernel
theorem dX2_leastLengthOf_1 : decode cX2_leastLengthOf 1 = .ok (.istore_n 2, 1) := by decide +kernel
theorem dX2_leastLengthOf_2 : decode cX2_leastLengthOf 2 = .ok (.iconst 0, 1) := by decide +kernel
theorem dX2_leastLengthOf_3 : decode cX2_leastLengthOf 3 = .ok (.istore_n 3, 1) := by decide +kernel
theorem dX2_leastLengthOf_4 : decode cX2_leastLengthOf 4 = .ok (.iload_n 3, 1) := by decide +kernel
theorem dX2_leastLengthOf_5 : decode cX2_leastLengthOf 5 = .ok (.sipush 343, 3) := by decide +kernel
theorem dX2_leastLengthOf_8 : decode cX2_leastLengthOf 8 = .ok (.if_icmp .ge 43, 3) := by decide +kernel
theorem dX2_leastLengthOf_11 : decode cX2_leastLengthOf 11 = .ok (.aload_n 0, 1) := by decide +kernel
theorem dX2_leastLengthOf_12 : decode cX2_leastLengthOf 12 = .ok (.getfield 12, 3) := by decide +kernel
theorem dX2_leastLengthOf_15 : decode cX2_leastLengthOf 15 = .ok (.iload_n 1, 1) := by decide +kernel
theorem dX2_leastLengthOf_16 : decode cX2_leastLengthOf 16 = .ok (.iload_n 3, 1) := by decide +kernel
theorem dX2_leastLengthOf_17 : decode cX2_leastLengthOf 17 = .ok (.invokestatic 43, 3) := by decide +kernel
theorem dX2_leastLengthOf_20 : decode cX2_leastLengthOf 20 = .ok (.invokevirtual 101, 3) := by decide +kernel
theorem dX2_leastLengthOf_23 : decode cX2_leastLengthOf 23 = .ok (.istore 4, 2) := by decide +kernel
theorem dX2_leastLengthOf_25 : decode cX2_leastLengthOf 25 = .ok (.iload 4, 2) := by decide +kernel
theorem dX2_leastLengthOf_27 : decode cX2_leastLengthOf 27 = .ok (.iconst (-1), 1) := by decide +kernel
theorem dX2_leastLengthOf_28 : decode cX2_leastLengthOf 28 = .ok (.if_icmp .eq 17, 3) := by decide +kernel
theorem dX2_leastLengthOf_31 : decode cX2_leastLengthOf 31 = .ok (.iload_n 2, 1) := by decide +kernel
theorem dX2_leastLengthOf_32 : decode cX2_leastLengthOf 32 = .ok (.iconst (-1), 1) := by decide +kernel
theorem dX2_leastLengthOf_33 : decode cX2_leastLengthOf 33 = .ok (.if_icmp .eq 9, 3) := by decide +kernel
theorem dX2_leastLengthOf_36 : decode cX2_leastLengthOf 36 = .ok (.iload 4, 2) := by decide +kernel
theorem dX2_leastLengthOf_38 : decode cX2_leastLengthOf 38 = .ok (.iload_n 2, 1) := by decide +kernel
theorem dX2_leastLengthOf_39 : decode cX2_leastLengthOf 39 = .ok (.if_icmp .ge 6, 3) := by decide +kernel
theorem dX2_leastLengthOf_42 : decode cX2_leastLengthOf 42 = .ok (.iload 4, 2) := by decide +kernel
theorem dX2_leastLengthOf_44 : decode cX2_leastLengthOf 44 = .ok (.istore_n 2, 1) := by decide +kernel
theorem dX2_leastLengthOf_45 : decode cX2_leastLengthOf 45 = .ok (.iinc 3 1, 3) := by decide +kernel
theorem dX2_leastLengthOf_48 : decode cX2_leastLengthOf 48 = .ok (.goto (-44), 3) := by decide +kernel
theorem dX2_leastLengthOf_51 : decode cX2_leastLengthOf 51 = .ok (.iload_n 2, 1) := by decide +kernel
theorem dX2_leastLengthOf_52 : decode cX2_leastLengthOf 52 = .ok (.ireturn, 1) := by decide +kernel
theorem dX2_alongCable_0 : decode cX2_alongCable 0 = .ok (.aload_n 0, 1) := by decide +kernel
theorem dX2_alongCable_1 : decode cX2_alongCable 1 = .ok (.getfield 46, 3) := by decide +kernel
theorem dX2_alongCable_4 : decode cX2_alongCable 4 = .ok (.istore_n 2, 1) := by decide +kernel
theorem dX2_alongCable_5 : decode cX2_alongCable 5 = .ok (.iconst 0, 1) := by decide +kernel
theorem dX2_alongCable_6 : decode cX2_alongCable 6 = .ok (.istore_n 3, 1) := by decide +kernel
theorem dX2_alongCable_7 : decode cX2_alongCable 7 = .ok (.iload_n 3, 1) := by decide +kernel
theorem dX2_alongCable_8 : decode cX2_alongCable 8 = .ok (.iload_n 1, 1) := by decide +kernel
theorem dX2_alongCable_9 : decode cX2_alongCable 9 = .ok (.if_icmp .ge 23, 3) := by decide +kernel
theorem dX2_alongCable_12 : decode cX2_alongCable 12 = .ok (.aload_n 0, 1) := by decide +kernel
theorem dX2_alongCable_13 : decode cX2_alongCable 13 = .ok (.getfield 28, 3) := by decide +kernel
theorem dX2_alongCable_16 : decode cX2_alongCable 16 = .ok (.iload_n 2, 1) := by decide +kernel
theorem dX2_alongCable_17 : decode cX2_alongCable 17 = .ok (.aload_n 0, 1) := by decide +kernel
theorem dX2_alongCable_18 : decode cX2_alongCable 18 = .ok (.iload_n 2, 1) := by decide +kernel
theorem dX2_alongCable_19 : decode cX2_alongCable 19 = .ok (.invokevirtual 148, 3) := by decide +kernel
theorem dX2_alongCable_22 : decode cX2_alongCable 22 = .ok (.invokevirtual 151, 3) := by decide +kernel
theorem dX2_alongCable_25 : decode cX2_alongCable 25 = .ok (.istore_n 2, 1) := by decide +kernel
theorem dX2_alongCable_26 : decode cX2_alongCable 26 = .ok (.iinc 3 1, 3) := by decide +kernel
theorem dX2_alongCable_29 : decode cX2_alongCable 29 = .ok (.goto (-22), 3) := by decide +kernel
theorem dX2_alongCable_32 : decode cX2_alongCable 32 = .ok (.iload_n 2, 1) := by decide +kernel
theorem dX2_alongCable_33 : decode cX2_alongCable 33 = .ok (.ireturn, 1) := by decide +kernel
theorem dX2_cableDirection_0 : decode cX2_cableDirection 0 = .ok (.aload_n 0, 1) := by decide +kernel
theorem dX2_cableDirection_1 : decode cX2_cableDirection 1 = .ok (.getfield 12, 3) := by decide +kernel
theorem dX2_cableDirection_4 : decode cX2_cableDirection 4 = .ok (.iload_n 1, 1) := by decide +kernel
theorem dX2_cableDirection_5 : decode cX2_cableDirection 5 = .ok (.invokevirtual 101, 3) := by decide +kernel
theorem dX2_cableDirection_8 : decode cX2_cableDirection 8 = .ok (.istore_n 2, 1) := by decide +kernel
theorem dX2_cableDirection_9 : decode cX2_cableDirection 9 = .ok (.iload_n 2, 1) := by decide +kernel
theorem dX2_cableDirection_10 : decode cX2_cableDirection 10 = .ok (.iconst 1, 1) := by decide +kernel
theorem dX2_cableDirection_11 : decode cX2_cableDirection 11 = .ok (.if_icmp .ge 5, 3) := by decide +kernel
theorem dX2_cableDirection_14 : decode cX2_cableDirection 14 = .ok (.iconst (-1), 1) := by decide +kernel
theorem dX2_cableDirection_15 : decode cX2_cableDirection 15 = .ok (.ireturn, 1) := by decide +kernel
theorem dX2_cableDirection_16 : decode cX2_cableDirection 16 = .ok (.iconst 0, 1) := by decide +kernel
theorem dX2_cableDirection_17 : decode cX2_cableDirection 17 = .ok (.istore_n 3, 1) := by decide +kernel
theorem dX2_cableDirection_18 : decode cX2_cableDirection 18 = .ok (.iload_n 3, 1) := by decide +kernel
theorem dX2_cableDirection_19 : decode cX2_cableDirection 19 = .ok (.iconst 4, 1) := by decide +kernel
theorem dX2_cableDirection_20 : decode cX2_cableDirection 20 = .ok (.if_icmp .ge 33, 3) := by decide +kernel
theorem dX2_cableDirection_23 : decode cX2_cableDirection 23 = .ok (.aload_n 0, 1) := by decide +kernel
theorem dX2_cableDirection_24 : decode cX2_cableDirection 24 = .ok (.getfield 12, 3) := by decide +kernel
theorem dX2_cableDirection_27 : decode cX2_cableDirection 27 = .ok (.aload_n 0, 1) := by decide +kernel
theorem dX2_cableDirection_28 : decode cX2_cableDirection 28 = .ok (.getfield 28, 3) := by decide +kernel
theorem dX2_cableDirection_31 : decode cX2_cableDirection 31 = .ok (.iload_n 1, 1) := by decide +kernel
theorem dX2_cableDirection_32 : decode cX2_cableDirection 32 = .ok (.iload_n 3, 1) := by decide +kernel
theorem dX2_cableDirection_33 : decode cX2_cableDirection 33 = .ok (.invokevirtual 151, 3) := by decide +kernel
theorem dX2_cableDirection_36 : decode cX2_cableDirection 36 = .ok (.invokevirtual 101, 3) := by decide +kernel
theorem dX2_cableDirection_39 : decode cX2_cableDirection 39 = .ok (.iload_n 2, 1) := by decide +kernel
theorem dX2_cableDirection_40 : decode cX2_cableDirection 40 = .ok (.iconst 1, 1) := by decide +kernel
theorem dX2_cableDirection_41 : decode cX2_cableDirection 41 = .ok (.isub, 1) := by decide +kernel
theorem dX2_cableDirection_42 : decode cX2_cableDirection 42 = .ok (.if_icmp .ne 5, 3) := by decide +kernel
theorem dX2_cableDirection_45 : decode cX2_cableDirection 45 = .ok (.iload_n 3, 1) := by decide +kernel
theorem dX2_cableDirection_46 : decode cX2_cableDirection 46 = .ok (.ireturn, 1) := by decide +kernel
theorem dX2_cableDirection_47 : decode cX2_cableDirection 47 = .ok (.iinc 3 1, 3) := by decide +kernel
theorem dX2_cableDirection_50 : decode cX2_cableDirection 50 = .ok (.goto (-32), 3) := by decide +kernel
theorem dX2_cableDirection_53 : decode cX2_cableDirection 53 = .ok (.iconst (-1), 1) := by decide +kernel
theorem dX2_cableDirection_54 : decode cX2_cableDirection 54 = .ok (.ireturn, 1) := by decide +kernel
theorem dX2_fewestByTrying_0 : decode cX2_fewestByTrying 0 = .ok (.iload_n 1, 1) := by decide +kernel
theorem dX2_fewestByTrying_1 : decode cX2_fewestByTrying 1 = .ok (.iconst (-1), 1) := by decide +kernel
theorem dX2_fewestByTrying_2 : decode cX2_fewestByTrying 2 = .ok (.if_icmp .eq 21, 3) := by decide +kernel
theorem dX2_fewestByTrying_5 : decode cX2_fewestByTrying 5 = .ok (.iload_n 3, 1) := by decide +kernel
theorem dX2_fewestByTrying_6 : decode cX2_fewestByTrying 6 = .ok (.iload_n 1, 1) := by decide +kernel
theorem dX2_fewestByTrying_7 : decode cX2_fewestByTrying 7 = .ok (.invokestatic 114, 3) := by decide +kernel
theorem dX2_fewestByTrying_10 : decode cX2_fewestByTrying 10 = .ok (.iload_n 2, 1) := by decide +kernel
theorem dX2_fewestByTrying_11 : decode cX2_fewestByTrying 11 = .ok (.invokestatic 114, 3) := by decide +kernel
theorem dX2_fewestByTrying_14 : decode cX2_fewestByTrying 14 = .ok (.invokestatic 176, 3) := by decide +kernel
theorem dX2_fewestByTrying_17 : decode cX2_fewestByTrying 17 = .ok (.iadd, 1) := by decide +kernel
theorem dX2_fewestByTrying_18 : decode cX2_fewestByTrying 18 = .ok (.iload 4, 2) := by decide +kernel
theorem dX2_fewestByTrying_20 : decode cX2_fewestByTrying 20 = .ok (.if_icmp .le 8, 3) := by decide +kernel
theorem dX2_fewestByTrying_23 : decode cX2_fewestByTrying 23 = .ok (.iload 4, 2) := by decide +kernel
theorem dX2_fewestByTrying_25 : decode cX2_fewestByTrying 25 = .ok (.iconst 1, 1) := by decide +kernel
theorem dX2_fewestByTrying_26 : decode cX2_fewestByTrying 26 = .ok (.iadd, 1) := by decide +kernel
theorem dX2_fewestByTrying_27 : decode cX2_fewestByTrying 27 = .ok (.ireturn, 1) := by decide +kernel
theorem dX2_fewestByTrying_28 : decode cX2_fewestByTrying 28 = .ok (.iload_n 1, 1) := by decide +kernel
theorem dX2_fewestByTrying_29 : decode cX2_fewestByTrying 29 = .ok (.iload_n 2, 1) := by decide +kernel
theorem dX2_fewestByTrying_30 : decode cX2_fewestByTrying 30 = .ok (.if_icmp .ne 5, 3) := by decide +kernel
theorem dX2_fewestByTrying_33 : decode cX2_fewestByTrying 33 = .ok (.iload_n 3, 1) := by decide +kernel
theorem dX2_fewestByTrying_34 : decode cX2_fewestByTrying 34 = .ok (.ireturn, 1) := by decide +kernel
theorem dX2_fewestByTrying_35 : decode cX2_fewestByTrying 35 = .ok (.iload 4, 2) := by decide +kernel
theorem dX2_fewestByTrying_37 : decode cX2_fewestByTrying 37 = .ok (.iconst 1, 1) := by decide +kernel
theorem dX2_fewestByTrying_38 : decode cX2_fewestByTrying 38 = .ok (.iadd, 1) := by decide +kernel
theorem dX2_fewestByTrying_39 : decode cX2_fewestByTrying 39 = .ok (.istore 5, 2) := by decide +kernel
theorem dX2_fewestByTrying_41 : decode cX2_fewestByTrying 41 = .ok (.iconst 0, 1) := by decide +kernel
theorem dX2_fewestByTrying_42 : decode cX2_fewestByTrying 42 = .ok (.istore 6, 2) := by decide +kernel
theorem dX2_fewestByTrying_44 : decode cX2_fewestByTrying 44 = .ok (.iload 6, 2) := by decide +kernel
theorem dX2_fewestByTrying_46 : decode cX2_fewestByTrying 46 = .ok (.iconst 4, 1) := by decide +kernel
theorem dX2_fewestByTrying_47 : decode cX2_fewestByTrying 47 = .ok (.if_icmp .ge 30, 3) := by decide +kernel
theorem dX2_fewestByTrying_50 : decode cX2_fewestByTrying 50 = .ok (.aload_n 0, 1) := by decide +kernel
theorem dX2_fewestByTrying_51 : decode cX2_fewestByTrying 51 = .ok (.aload_n 0, 1) := by decide +kernel
theorem dX2_fewestByTrying_52 : decode cX2_fewestByTrying 52 = .ok (.iload_n 1, 1) := by decide +kernel
theorem dX2_fewestByTrying_53 : decode cX2_fewestByTrying 53 = .ok (.iload 6, 2) := by decide +kernel
theorem dX2_fewestByTrying_55 : decode cX2_fewestByTrying 55 = .ok (.invokevirtual 151, 3) := by decide +kernel
theorem dX2_fewestByTrying_58 : decode cX2_fewestByTrying 58 = .ok (.iload_n 2, 1) := by decide +kernel
theorem dX2_fewestByTrying_59 : decode cX2_fewestByTrying 59 = .ok (.iload_n 3, 1) := by decide +kernel
theorem dX2_fewestByTrying_60 : decode cX2_fewestByTrying 60 = .ok (.iconst 1, 1) := by decide +kernel
theorem dX2_fewestByTrying_61 : decode cX2_fewestByTrying 61 = .ok (.iadd, 1) := by decide +kernel
theorem dX2_fewestByTrying_62 : decode cX2_fewestByTrying 62 = .ok (.iload 5, 2) := by decide +kernel
theorem dX2_fewestByTrying_64 : decode cX2_fewestByTrying 64 = .ok (.iconst 1, 1) := by decide +kernel
theorem dX2_fewestByTrying_65 : decode cX2_fewestByTrying 65 = .ok (.isub, 1) := by decide +kernel
theorem dX2_fewestByTrying_66 : decode cX2_fewestByTrying 66 = .ok (.invokestatic 142, 3) := by decide +kernel
theorem dX2_fewestByTrying_69 : decode cX2_fewestByTrying 69 = .ok (.istore 5, 2) := by decide +kernel
theorem dX2_fewestByTrying_71 : decode cX2_fewestByTrying 71 = .ok (.iinc 6 1, 3) := by decide +kernel
theorem dX2_fewestByTrying_74 : decode cX2_fewestByTrying 74 = .ok (.goto (-30), 3) := by decide +kernel
theorem dX2_fewestByTrying_77 : decode cX2_fewestByTrying 77 = .ok (.iload 5, 2) := by decide +kernel
theorem dX2_fewestByTrying_79 : decode cX2_fewestByTrying 79 = .ok (.ireturn, 1) := by decide +kernel
theorem dX2_requireSquare_0 : decode cX2_requireSquare 0 = .ok (.aload_n 0, 1) := by decide +kernel
theorem dX2_requireSquare_1 : decode cX2_requireSquare 1 = .ok (.getfield 28, 3) := by decide +kernel
theorem dX2_requireSquare_4 : decode cX2_requireSquare 4 = .ok (.iload_n 1, 1) := by decide +kernel
theorem dX2_requireSquare_5 : decode cX2_requireSquare 5 = .ok (.iload_n 2, 1) := by decide +kernel
theorem dX2_requireSquare_6 : decode cX2_requireSquare 6 = .ok (.invokevirtual 179, 3) := by decide +kernel
theorem dX2_requireSquare_9 : decode cX2_requireSquare 9 = .ok (.ifCond .ne 13, 3) := by decide +kernel
theorem dX2_requireSquare_12 : decode cX2_requireSquare 12 = .ok (.new 132, 3) := by decide +kernel
theorem dX2_requireSquare_15 : decode cX2_requireSquare 15 = .ok (.dup, 1) := by decide +kernel
theorem dX2_requireSquare_16 : decode cX2_requireSquare 16 = .ok (.ldc 183, 2) := by decide +kernel
theorem dX2_requireSquare_18 : decode cX2_requireSquare 18 = .ok (.invokespecial 136, 3) := by decide +kernel
theorem dX2_requireSquare_21 : decode cX2_requireSquare 21 = .ok (.athrow, 1) := by decide +kernel
theorem dX2_requireSquare_22 : decode cX2_requireSquare 22 = .ok (.return_, 1) := by decide +kernel
theorem dX2_between_0 : decode cX2_between 0 = .ok (.iload_n 0, 1) := by decide +kernel
theorem dX2_between_1 : decode cX2_between 1 = .ok (.iload_n 1, 1) := by decide +kernel
theorem dX2_between_2 : decode cX2_between 2 = .ok (.iload_n 2, 1) := by decide +kernel
theorem dX2_between_3 : decode cX2_between 3 = .ok (.invokestatic 106, 3) := by decide +kernel
theorem dX2_between_6 : decode cX2_between 6 = .ok (.invokestatic 157, 3) := by decide +kernel
theorem dX2_between_9 : decode cX2_between 9 = .ok (.ireturn, 1) := by decide +kernel
theorem dX2_squareAt_0 : decode cX2_squareAt 0 = .ok (.iload_n 0, 1) := by decide +kernel
theorem dX2_squareAt_1 : decode cX2_squareAt 1 = .ok (.bipush 7, 2) := by decide +kernel
theorem dX2_squareAt_3 : decode cX2_squareAt 3 = .ok (.imul, 1) := by decide +kernel
theorem dX2_squareAt_4 : decode cX2_squareAt 4 = .ok (.iload_n 1, 1) := by decide +kernel
theorem dX2_squareAt_5 : decode cX2_squareAt 5 = .ok (.iadd, 1) := by decide +kernel
theorem dX2_squareAt_6 : decode cX2_squareAt 6 = .ok (.ireturn, 1) := by decide +kernel
theorem dX2_columnOf_0 : decode cX2_columnOf 0 = .ok (.iload_n 0, 1) := by decide +kernel
theorem dX2_columnOf_1 : decode cX2_columnOf 1 = .ok (.bipush 7, 2) := by decide +kernel
theorem dX2_columnOf_3 : decode cX2_columnOf 3 = .ok (.idiv, 1) := by decide +kernel
theorem dX2_columnOf_4 : decode cX2_columnOf 4 = .ok (.ireturn, 1) := by decide +kernel
theorem dX2_rowOf_0 : decode cX2_rowOf 0 = .ok (.iload_n 0, 1) := by decide +kernel
theorem dX2_rowOf_1 : decode cX2_rowOf 1 = .ok (.bipush 7, 2) := by decide +kernel
theorem dX2_rowOf_3 : decode cX2_rowOf 3 = .ok (.irem, 1) := by decide +kernel
theorem dX2_rowOf_4 : decode cX2_rowOf 4 = .ok (.ireturn, 1) := by decide +kernel
theorem dX2_apart_0 : decode cX2_apart 0 = .ok (.iload_n 0, 1) := by decide +kernel
theorem dX2_apart_1 : decode cX2_apart 1 = .ok (.invokestatic 117, 3) := by decide +kernel
theorem dX2_apart_4 : decode cX2_apart 4 = .ok (.iload_n 1, 1) := by decide +kernel
theorem dX2_apart_5 : decode cX2_apart 5 = .ok (.invokestatic 117, 3) := by decide +kernel
theorem dX2_apart_8 : decode cX2_apart 8 = .ok (.isub, 1) := by decide +kernel
theorem dX2_apart_9 : decode cX2_apart 9 = .ok (.invokestatic 185, 3) := by decide +kernel
theorem dX2_apart_12 : decode cX2_apart 12 = .ok (.iload_n 0, 1) := by decide +kernel
theorem dX2_apart_13 : decode cX2_apart 13 = .ok (.invokestatic 120, 3) := by decide +kernel
theorem dX2_apart_16 : decode cX2_apart 16 = .ok (.iload_n 1, 1) := by decide +kernel
theorem dX2_apart_17 : decode cX2_apart 17 = .ok (.invokestatic 120, 3) := by decide +kernel
theorem dX2_apart_20 : decode cX2_apart 20 = .ok (.isub, 1) := by decide +kernel
theorem dX2_apart_21 : decode cX2_apart 21 = .ok (.invokestatic 185, 3) := by decide +kernel
theorem dX2_apart_24 : decode cX2_apart 24 = .ok (.iadd, 1) := by decide +kernel
theorem dX2_apart_25 : decode cX2_apart 25 = .ok (.ireturn, 1) := by decide +kernel
theorem dX2_placeOf_0 : decode cX2_placeOf 0 = .ok (.iload_n 0, 1) := by decide +kernel
theorem dX2_placeOf_1 : decode cX2_placeOf 1 = .ok (.sipush 343, 3) := by decide +kernel
theorem dX2_placeOf_4 : decode cX2_placeOf 4 = .ok (.imul, 1) := by decide +kernel
theorem dX2_placeOf_5 : decode cX2_placeOf 5 = .ok (.iload_n 1, 1) := by decide +kernel
theorem dX2_placeOf_6 : decode cX2_placeOf 6 = .ok (.iadd, 1) := by decide +kernel
theorem dX2_placeOf_7 : decode cX2_placeOf 7 = .ok (.ireturn, 1) := by decide +kernel
theorem dX2_squareOf_0 : decode cX2_squareOf 0 = .ok (.iload_n 0, 1) := by decide +kernel
theorem dX2_squareOf_1 : decode cX2_squareOf 1 = .ok (.sipush 343, 3) := by decide +kernel
theorem dX2_squareOf_4 : decode cX2_squareOf 4 = .ok (.idiv, 1) := by decide +kernel
theorem dX2_squareOf_5 : decode cX2_squareOf 5 = .ok (.ireturn, 1) := by decide +kernel
theorem dX2_wordOf_0 : decode cX2_wordOf 0 = .ok (.iload_n 0, 1) := by decide +kernel
theorem dX2_wordOf_1 : decode cX2_wordOf 1 = .ok (.sipush 343, 3) := by decide +kernel
theorem dX2_wordOf_4 : decode cX2_wordOf 4 = .ok (.irem, 1) := by decide +kernel
theorem dX2_wordOf_5 : decode cX2_wordOf 5 = .ok (.ireturn, 1) := by decide +kernel
theorem dX2_lettersOf_0 : decode cX2_lettersOf 0 = .ok (.iconst 0, 1) := by decide +kernel
theorem dX2_lettersOf_1 : decode cX2_lettersOf 1 = .ok (.istore_n 1, 1) := by decide +kernel
theorem dX2_lettersOf_2 : decode cX2_lettersOf 2 = .ok (.iload_n 0, 1) := by decide +kernel
theorem dX2_lettersOf_3 : decode cX2_lettersOf 3 = .ok (.istore_n 2, 1) := by decide +kernel
theorem dX2_lettersOf_4 : decode cX2_lettersOf 4 = .ok (.iload_n 2, 1) := by decide +kernel
theorem dX2_lettersOf_5 : decode cX2_lettersOf 5 = .ok (.ifCond .le 19, 3) := by decide +kernel
theorem dX2_lettersOf_8 : decode cX2_lettersOf 8 = .ok (.iload_n 1, 1) := by decide +kernel
theorem dX2_lettersOf_9 : decode cX2_lettersOf 9 = .ok (.iconst 3, 1) := by decide +kernel
theorem dX2_lettersOf_10 : decode cX2_lettersOf 10 = .ok (.if_icmp .ge 14, 3) := by decide +kernel
theorem dX2_lettersOf_13 : decode cX2_lettersOf 13 = .ok (.iload_n 2, 1) := by decide +kernel
theorem dX2_lettersOf_14 : decode cX2_lettersOf 14 = .ok (.bipush 7, 2) := by decide +kernel
theorem dX2_lettersOf_16 : decode cX2_lettersOf 16 = .ok (.idiv, 1) := by decide +kernel
theorem dX2_lettersOf_17 : decode cX2_lettersOf 17 = .ok (.istore_n 2, 1) := by decide +kernel
theorem dX2_lettersOf_18 : decode cX2_lettersOf 18 = .ok (.iinc 1 1, 3) := by decide +kernel
theorem dX2_lettersOf_21 : decode cX2_lettersOf 21 = .ok (.goto (-17), 3) := by decide +kernel
theorem dX2_lettersOf_24 : decode cX2_lettersOf 24 = .ok (.iload_n 1, 1) := by decide +kernel
theorem dX2_lettersOf_25 : decode cX2_lettersOf 25 = .ok (.ireturn, 1) := by decide +kernel
theorem dX2_lastLetterOf_0 : decode cX2_lastLetterOf 0 = .ok (.iload_n 0, 1) := by decide +kernel
theorem dX2_lastLetterOf_1 : decode cX2_lastLetterOf 1 = .ok (.bipush 7, 2) := by decide +kernel
theorem dX2_lastLetterOf_3 : decode cX2_lastLetterOf 3 = .ok (.irem, 1) := by decide +kernel
theorem dX2_lastLetterOf_4 : decode cX2_lastLetterOf 4 = .ok (.iconst 1, 1) := by decide +kernel
theorem dX2_lastLetterOf_5 : decode cX2_lastLetterOf 5 = .ok (.isub, 1) := by decide +kernel
theorem dX2_lastLetterOf_6 : decode cX2_lastLetterOf 6 = .ok (.ireturn, 1) := by decide +kernel
theorem dX2_oppositeOf_0 : decode cX2_oppositeOf 0 = .ok (.iload_n 0, 1) := by decide +kernel
theorem dX2_oppositeOf_1 : decode cX2_oppositeOf 1 = .ok (.iconst 1, 1) := by decide +kernel
theorem dX2_oppositeOf_2 : decode cX2_oppositeOf 2 = .ok (.ixor, 1) := by decide +kernel
theorem dX2_oppositeOf_3 : decode cX2_oppositeOf 3 = .ok (.ireturn, 1) := by decide +kernel
theorem dX2_withLetter_0 : decode cX2_withLetter 0 = .ok (.iload_n 0, 1) := by decide +kernel
theorem dX2_withLetter_1 : decode cX2_withLetter 1 = .ok (.invokestatic 137, 3) := by decide +kernel
theorem dX2_withLetter_4 : decode cX2_withLetter 4 = .ok (.iload_n 1, 1) := by decide +kernel
theorem dX2_withLetter_5 : decode cX2_withLetter 5 = .ok (.invokestatic 188, 3) := by decide +kernel
theorem dX2_withLetter_8 : decode cX2_withLetter 8 = .ok (.if_icmp .ne 8, 3) := by decide +kernel
theorem dX2_withLetter_11 : decode cX2_withLetter 11 = .ok (.iload_n 0, 1) := by decide +kernel
theorem dX2_withLetter_12 : decode cX2_withLetter 12 = .ok (.bipush 7, 2) := by decide +kernel
theorem dX2_withLetter_14 : decode cX2_withLetter 14 = .ok (.idiv, 1) := by decide +kernel
theorem dX2_withLetter_15 : decode cX2_withLetter 15 = .ok (.ireturn, 1) := by decide +kernel
theorem dX2_withLetter_16 : decode cX2_withLetter 16 = .ok (.iload_n 0, 1) := by decide +kernel
theorem dX2_withLetter_17 : decode cX2_withLetter 17 = .ok (.bipush 7, 2) := by decide +kernel
theorem dX2_withLetter_19 : decode cX2_withLetter 19 = .ok (.imul, 1) := by decide +kernel
theorem dX2_withLetter_20 : decode cX2_withLetter 20 = .ok (.iload_n 1, 1) := by decide +kernel
theorem dX2_withLetter_21 : decode cX2_withLetter 21 = .ok (.iadd, 1) := by decide +kernel
theorem dX2_withLetter_22 : decode cX2_withLetter 22 = .ok (.iconst 1, 1) := by decide +kernel
theorem dX2_withLetter_23 : decode cX2_withLetter 23 = .ok (.iadd, 1) := by decide +kernel
theorem dX2_withLetter_24 : decode cX2_withLetter 24 = .ok (.ireturn, 1) := by decide +kernel
theorem dJ9_abs_0f7a4_0 : decode cJ9_abs_0f7a4 0 = .ok (.iload_n 0, 1) := by decide +kernel
theorem dJ9_abs_0f7a4_1 : decode cJ9_abs_0f7a4 1 = .ok (.ifCond .ge 8, 3) := by decide +kernel
theorem dJ9_abs_0f7a4_4 : decode cJ9_abs_0f7a4 4 = .ok (.iload_n 0, 1) := by decide +kernel
theorem dJ9_abs_0f7a4_5 : decode cJ9_abs_0f7a4 5 = .ok (.ineg, 1) := by decide +kernel
theorem dJ9_abs_0f7a4_6 : decode cJ9_abs_0f7a4 6 = .ok (.goto 4, 3) := by decide +kernel
theorem dJ9_abs_0f7a4_9 : decode cJ9_abs_0f7a4 9 = .ok (.iload_n 0, 1) := by decide +kernel
theorem dJ9_abs_0f7a4_10 : decode cJ9_abs_0f7a4 10 = .ok (.ireturn, 1) := by decide +kernel
theorem dJ9_max_7cf53_0 : decode cJ9_max_7cf53 0 = .ok (.iload_n 0, 1) := by decide +kernel
theorem dJ9_max_7cf53_1 : decode cJ9_max_7cf53 1 = .ok (.iload_n 1, 1) := by decide +kernel
theorem dJ9_max_7cf53_2 : decode cJ9_max_7cf53 2 = .ok (.if_icmp .lt 7, 3) := by decide +kernel
theorem dJ9_max_7cf53_5 : decode cJ9_max_7cf53 5 = .ok (.iload_n 0, 1) := by decide +kernel
theorem dJ9_max_7cf53_6 : decode cJ9_max_7cf53 6 = .ok (.goto 4, 3) := by decide +kernel
theorem dJ9_max_7cf53_9 : decode cJ9_max_7cf53 9 = .ok (.iload_n 1, 1) := by decide +kernel
theorem dJ9_max_7cf53_10 : decode cJ9_max_7cf53 10 = .ok (.ireturn, 1) := by decide +kernel
theorem dJ9_min_7cf53_0 : decode cJ9_min_7cf53 0 = .ok (.iload_n 0, 1) := by decide +kernel
theorem dJ9_min_7cf53_1 : decode cJ9_min_7cf53 1 = .ok (.iload_n 1, 1) := by decide +kernel
theorem dJ9_min_7cf53_2 : decode cJ9_min_7cf53 2 = .ok (.if_icmp .gt 7, 3) := by decide +kernel
theorem dJ9_min_7cf53_5 : decode cJ9_min_7cf53 5 = .ok (.iload_n 0, 1) := by decide +kernel
theorem dJ9_min_7cf53_6 : decode cJ9_min_7cf53 6 = .ok (.goto 4, 3) := by decide +kernel
theorem dJ9_min_7cf53_9 : decode cJ9_min_7cf53 9 = .ok (.iload_n 1, 1) := by decide +kernel
theorem dJ9_min_7cf53_10 : decode cJ9_min_7cf53 10 = .ok (.ireturn, 1) := by decide +kernel
theorem dJ7_fill_53178_0 : decode cJ7_fill_53178 0 = .ok (.iconst 0, 1) := by decide +kernel
theorem dJ7_fill_53178_1 : decode cJ7_fill_53178 1 = .ok (.istore_n 2, 1) := by decide +kernel
theorem dJ7_fill_53178_2 : decode cJ7_fill_53178 2 = .ok (.aload_n 0, 1) := by decide +kernel
theorem dJ7_fill_53178_3 : decode cJ7_fill_53178 3 = .ok (.arraylength, 1) := by decide +kernel
theorem dJ7_fill_53178_4 : decode cJ7_fill_53178 4 = .ok (.istore_n 3, 1) := by decide +kernel
theorem dJ7_fill_53178_5 : decode cJ7_fill_53178 5 = .ok (.iload_n 2, 1) := by decide +kernel
theorem dJ7_fill_53178_6 : decode cJ7_fill_53178 6 = .ok (.iload_n 3, 1) := by decide +kernel
theorem dJ7_fill_53178_7 : decode cJ7_fill_53178 7 = .ok (.if_icmp .ge 13, 3) := by decide +kernel
theorem dJ7_fill_53178_10 : decode cJ7_fill_53178 10 = .ok (.aload_n 0, 1) := by decide +kernel
theorem dJ7_fill_53178_11 : decode cJ7_fill_53178 11 = .ok (.iload_n 2, 1) := by decide +kernel
theorem dJ7_fill_53178_12 : decode cJ7_fill_53178 12 = .ok (.iload_n 1, 1) := by decide +kernel
theorem dJ7_fill_53178_13 : decode cJ7_fill_53178 13 = .ok (.iastore, 1) := by decide +kernel
theorem dJ7_fill_53178_14 : decode cJ7_fill_53178 14 = .ok (.iinc 2 1, 3) := by decide +kernel
theorem dJ7_fill_53178_17 : decode cJ7_fill_53178 17 = .ok (.goto (-12), 3) := by decide +kernel
theorem dJ7_fill_53178_20 : decode cJ7_fill_53178 20 = .ok (.return_, 1) := by decide +kernel
end
section
theorem dX3_init_0 : decode cX3_init 0 = .ok (.aload_n 0, 1) := by decide +kernel
theorem dX3_init_1 : decode cX3_init 1 = .ok (.invokespecial 1, 3) := by decide +kernel
theorem dX3_init_4 : decode cX3_init 4 = .ok (.aload_n 0, 1) := by decide +kernel
theorem dX3_init_5 : decode cX3_init 5 = .ok (.iconst 3, 1) := by decide +kernel
theorem dX3_init_6 : decode cX3_init 6 = .ok (.newarray .int, 2) := by decide +kernel
theorem dX3_init_8 : decode cX3_init 8 = .ok (.putfield 7, 3) := by decide +kernel
theorem dX3_init_11 : decode cX3_init 11 = .ok (.aload_n 0, 1) := by decide +kernel
theorem dX3_init_12 : decode cX3_init 12 = .ok (.iconst 3, 1) := by decide +kernel
theorem dX3_init_13 : decode cX3_init 13 = .ok (.newarray .int, 2) := by decide +kernel
theorem dX3_init_15 : decode cX3_init 15 = .ok (.putfield 13, 3) := by decide +kernel
theorem dX3_init_18 : decode cX3_init 18 = .ok (.aload_n 0, 1) := by decide +kernel
theorem dX3_init_19 : decode cX3_init 19 = .ok (.sipush 16807, 3) := by decide +kernel
theorem dX3_init_22 : decode cX3_init 22 = .ok (.newarray .int, 2) := by decide +kernel
theorem dX3_init_24 : decode cX3_init 24 = .ok (.putfield 16, 3) := by decide +kernel
theorem dX3_init_27 : decode cX3_init 27 = .ok (.aload_n 0, 1) := by decide +kernel
theorem dX3_init_28 : decode cX3_init 28 = .ok (.sipush 16807, 3) := by decide +kernel
theorem dX3_init_31 : decode cX3_init 31 = .ok (.newarray .int, 2) := by decide +kernel
theorem dX3_init_33 : decode cX3_init 33 = .ok (.putfield 19, 3) := by decide +kernel
theorem dX3_init_36 : decode cX3_init 36 = .ok (.aload_n 0, 1) := by decide +kernel
theorem dX3_init_37 : decode cX3_init 37 = .ok (.sipush 16807, 3) := by decide +kernel
theorem dX3_init_40 : decode cX3_init 40 = .ok (.newarray .int, 2) := by decide +kernel
theorem dX3_init_42 : decode cX3_init 42 = .ok (.putfield 22, 3) := by decide +kernel
theorem dX3_init_45 : decode cX3_init 45 = .ok (.aload_n 0, 1) := by decide +kernel
theorem dX3_init_46 : decode cX3_init 46 = .ok (.iload_n 1, 1) := by decide +kernel
theorem dX3_init_47 : decode cX3_init 47 = .ok (.iconst 3, 1) := by decide +kernel
theorem dX3_init_48 : decode cX3_init 48 = .ok (.bipush 7, 2) := by decide +kernel
theorem dX3_init_50 : decode cX3_init 50 = .ok (.invokestatic 25, 3) := by decide +kernel
theorem dX3_init_53 : decode cX3_init 53 = .ok (.putfield 29, 3) := by decide +kernel
theorem dX3_init_56 : decode cX3_init 56 = .ok (.aload_n 0, 1) := by decide +kernel
theorem dX3_init_57 : decode cX3_init 57 = .ok (.iload_n 2, 1) := by decide +kernel
theorem dX3_init_58 : decode cX3_init 58 = .ok (.iconst 3, 1) := by decide +kernel
theorem dX3_init_59 : decode cX3_init 59 = .ok (.bipush 7, 2) := by decide +kernel
theorem dX3_init_61 : decode cX3_init 61 = .ok (.invokestatic 25, 3) := by decide +kernel
theorem dX3_init_64 : decode cX3_init 64 = .ok (.putfield 33, 3) := by decide +kernel
theorem dX3_init_67 : decode cX3_init 67 = .ok (.aload_n 0, 1) := by decide +kernel
theorem dX3_init_68 : decode cX3_init 68 = .ok (.iload_n 3, 1) := by decide +kernel
theorem dX3_init_69 : decode cX3_init 69 = .ok (.iconst 1, 1) := by decide +kernel
theorem dX3_init_70 : decode cX3_init 70 = .ok (.bipush 60, 2) := by decide +kernel
theorem dX3_init_72 : decode cX3_init 72 = .ok (.invokestatic 25, 3) := by decide +kernel
theorem dX3_init_75 : decode cX3_init 75 = .ok (.putfield 36, 3) := by decide +kernel
theorem dX3_init_78 : decode cX3_init 78 = .ok (.aload_n 0, 1) := by decide +kernel
theorem dX3_init_79 : decode cX3_init 79 = .ok (.invokevirtual 39, 3) := by decide +kernel
theorem dX3_init_82 : decode cX3_init 82 = .ok (.return_, 1) := by decide +kernel
theorem dX3_bounded_0 : decode cX3_bounded 0 = .ok (.iload_n 0, 1) := by decide +kernel
theorem dX3_bounded_1 : decode cX3_bounded 1 = .ok (.iload_n 1, 1) := by decide +kernel
theorem dX3_bounded_2 : decode cX3_bounded 2 = .ok (.if_icmp .ge 7, 3) := by decide +kernel
theorem dX3_bounded_5 : decode cX3_bounded 5 = .ok (.iload_n 1, 1) := by decide +kernel
theorem dX3_bounded_6 : decode cX3_bounded 6 = .ok (.goto 13, 3) := by decide +kernel
theorem dX3_bounded_9 : decode cX3_bounded 9 = .ok (.iload_n 0, 1) := by decide +kernel
theorem dX3_bounded_10 : decode cX3_bounded 10 = .ok (.iload_n 2, 1) := by decide +kernel
theorem dX3_bounded_11 : decode cX3_bounded 11 = .ok (.if_icmp .le 7, 3) := by decide +kernel
theorem dX3_bounded_14 : decode cX3_bounded 14 = .ok (.iload_n 2, 1) := by decide +kernel
theorem dX3_bounded_15 : decode cX3_bounded 15 = .ok (.goto 4, 3) := by decide +kernel
theorem dX3_bounded_18 : decode cX3_bounded 18 = .ok (.iload_n 0, 1) := by decide +kernel
theorem dX3_bounded_19 : decode cX3_bounded 19 = .ok (.ireturn, 1) := by decide +kernel
theorem dX3_thrown_0 : decode cX3_thrown 0 = .ok (.aload_n 0, 1) := by decide +kernel
theorem dX3_thrown_1 : decode cX3_thrown 1 = .ok (.getfield 42, 3) := by decide +kernel
theorem dX3_thrown_4 : decode cX3_thrown 4 = .ok (.ireturn, 1) := by decide +kernel
theorem dX3_holds_0 : decode cX3_holds 0 = .ok (.aload_n 0, 1) := by decide +kernel
theorem dX3_holds_1 : decode cX3_holds 1 = .ok (.iload_n 1, 1) := by decide +kernel
theorem dX3_holds_2 : decode cX3_holds 2 = .ok (.putfield 42, 3) := by decide +kernel
theorem dX3_holds_5 : decode cX3_holds 5 = .ok (.iload_n 1, 1) := by decide +kernel
theorem dX3_holds_6 : decode cX3_holds 6 = .ok (.ifCond .ne 7, 3) := by decide +kernel
theorem dX3_holds_9 : decode cX3_holds 9 = .ok (.iconst 1, 1) := by decide +kernel
theorem dX3_holds_10 : decode cX3_holds 10 = .ok (.goto 4, 3) := by decide +kernel
theorem dX3_holds_13 : decode cX3_holds 13 = .ok (.iconst 0, 1) := by decide +kernel
theorem dX3_holds_14 : decode cX3_holds 14 = .ok (.ireturn, 1) := by decide +kernel
theorem dX3_in_0 : decode cX3_in 0 = .ok (.iload_n 0, 1) := by decide +kernel
theorem dX3_in_1 : decode cX3_in 1 = .ok (.iload_n 1, 1) := by decide +kernel
theorem dX3_in_2 : decode cX3_in 2 = .ok (.if_icmp .lt 12, 3) := by decide +kernel
theorem dX3_in_5 : decode cX3_in 5 = .ok (.iload_n 0, 1) := by decide +kernel
theorem dX3_in_6 : decode cX3_in 6 = .ok (.iload_n 2, 1) := by decide +kernel
theorem dX3_in_7 : decode cX3_in 7 = .ok (.if_icmp .gt 7, 3) := by decide +kernel
theorem dX3_in_10 : decode cX3_in 10 = .ok (.iconst 1, 1) := by decide +kernel
theorem dX3_in_11 : decode cX3_in 11 = .ok (.goto 4, 3) := by decide +kernel
theorem dX3_in_14 : decode cX3_in 14 = .ok (.iconst 0, 1) := by decide +kernel
theorem dX3_in_15 : decode cX3_in 15 = .ok (.ireturn, 1) := by decide +kernel
theorem dX3_isSquare_0 : decode cX3_isSquare 0 = .ok (.iload_n 1, 1) := by decide +kernel
theorem dX3_isSquare_1 : decode cX3_isSquare 1 = .ok (.iconst 0, 1) := by decide +kernel
theorem dX3_isSquare_2 : decode cX3_isSquare 2 = .ok (.aload_n 0, 1) := by decide +kernel
theorem dX3_isSquare_3 : decode cX3_isSquare 3 = .ok (.getfield 29, 3) := by decide +kernel
theorem dX3_isSquare_6 : decode cX3_isSquare 6 = .ok (.iconst 1, 1) := by decide +kernel
theorem dX3_isSquare_7 : decode cX3_isSquare 7 = .ok (.isub, 1) := by decide +kernel
theorem dX3_isSquare_8 : decode cX3_isSquare 8 = .ok (.invokestatic 45, 3) := by decide +kernel
theorem dX3_isSquare_11 : decode cX3_isSquare 11 = .ok (.ifCond .eq 21, 3) := by decide +kernel
theorem dX3_isSquare_14 : decode cX3_isSquare 14 = .ok (.iload_n 2, 1) := by decide +kernel
theorem dX3_isSquare_15 : decode cX3_isSquare 15 = .ok (.iconst 0, 1) := by decide +kernel
theorem dX3_isSquare_16 : decode cX3_isSquare 16 = .ok (.aload_n 0, 1) := by decide +kernel
theorem dX3_isSquare_17 : decode cX3_isSquare 17 = .ok (.getfield 33, 3) := by decide +kernel
theorem dX3_isSquare_20 : decode cX3_isSquare 20 = .ok (.iconst 1, 1) := by decide +kernel
theorem dX3_isSquare_21 : decode cX3_isSquare 21 = .ok (.isub, 1) := by decide +kernel
theorem dX3_isSquare_22 : decode cX3_isSquare 22 = .ok (.invokestatic 45, 3) := by decide +kernel
theorem dX3_isSquare_25 : decode cX3_isSquare 25 = .ok (.ifCond .eq 7, 3) := by decide +kernel
theorem dX3_isSquare_28 : decode cX3_isSquare 28 = .ok (.iconst 1, 1) := by decide +kernel
theorem dX3_isSquare_29 : decode cX3_isSquare 29 = .ok (.goto 4, 3) := by decide +kernel
theorem dX3_isSquare_32 : decode cX3_isSquare 32 = .ok (.iconst 0, 1) := by decide +kernel
theorem dX3_isSquare_33 : decode cX3_isSquare 33 = .ok (.ireturn, 1) := by decide +kernel
theorem dX3_squareOf_0 : decode cX3_squareOf 0 = .ok (.bipush 7, 2) := by decide +kernel
theorem dX3_squareOf_2 : decode cX3_squareOf 2 = .ok (.iload_n 1, 1) := by decide +kernel
theorem dX3_squareOf_3 : decode cX3_squareOf 3 = .ok (.imul, 1) := by decide +kernel
theorem dX3_squareOf_4 : decode cX3_squareOf 4 = .ok (.iload_n 0, 1) := by decide +kernel
theorem dX3_squareOf_5 : decode cX3_squareOf 5 = .ok (.iadd, 1) := by decide +kernel
theorem dX3_squareOf_6 : decode cX3_squareOf 6 = .ok (.ireturn, 1) := by decide +kernel
theorem dX3_isPillar_0 : decode cX3_isPillar 0 = .ok (.iconst 0, 1) := by decide +kernel
theorem dX3_isPillar_1 : decode cX3_isPillar 1 = .ok (.istore_n 2, 1) := by decide +kernel
theorem dX3_isPillar_2 : decode cX3_isPillar 2 = .ok (.iload_n 2, 1) := by decide +kernel
theorem dX3_isPillar_3 : decode cX3_isPillar 3 = .ok (.aload_n 0, 1) := by decide +kernel
theorem dX3_isPillar_4 : decode cX3_isPillar 4 = .ok (.getfield 49, 3) := by decide +kernel
theorem dX3_isPillar_7 : decode cX3_isPillar 7 = .ok (.if_icmp .ge 30, 3) := by decide +kernel
theorem dX3_isPillar_10 : decode cX3_isPillar 10 = .ok (.aload_n 0, 1) := by decide +kernel
theorem dX3_isPillar_11 : decode cX3_isPillar 11 = .ok (.getfield 7, 3) := by decide +kernel
theorem dX3_isPillar_14 : decode cX3_isPillar 14 = .ok (.iload_n 2, 1) := by decide +kernel
theorem dX3_isPillar_15 : decode cX3_isPillar 15 = .ok (.iaload, 1) := by decide +kernel
theorem dX3_isPillar_16 : decode cX3_isPillar 16 = .ok (.aload_n 0, 1) := by decide +kernel
theorem dX3_isPillar_17 : decode cX3_isPillar 17 = .ok (.getfield 13, 3) := by decide +kernel
theorem dX3_isPillar_20 : decode cX3_isPillar 20 = .ok (.iload_n 2, 1) := by decide +kernel
theorem dX3_isPillar_21 : decode cX3_isPillar 21 = .ok (.iaload, 1) := by decide +kernel
theorem dX3_isPillar_22 : decode cX3_isPillar 22 = .ok (.invokestatic 52, 3) := by decide +kernel
theorem dX3_isPillar_25 : decode cX3_isPillar 25 = .ok (.iload_n 1, 1) := by decide +kernel
theorem dX3_isPillar_26 : decode cX3_isPillar 26 = .ok (.if_icmp .ne 5, 3) := by decide +kernel
theorem dX3_isPillar_29 : decode cX3_isPillar 29 = .ok (.iconst 1, 1) := by decide +kernel
theorem dX3_isPillar_30 : decode cX3_isPillar 30 = .ok (.ireturn, 1) := by decide +kernel
theorem dX3_isPillar_31 : decode cX3_isPillar 31 = .ok (.iinc 2 1, 3) := by decide +kernel
theorem dX3_isPillar_34 : decode cX3_isPillar 34 = .ok (.goto (-32), 3) := by decide +kernel
theorem dX3_isPillar_37 : decode cX3_isPillar 37 = .ok (.iconst 0, 1) := by decide +kernel
theorem dX3_isPillar_38 : decode cX3_isPillar 38 = .ok (.ireturn, 1) := by decide +kernel
theorem dX3_joined_0 : decode cX3_joined 0 = .ok (.iload_n 0, 1) := by decide +kernel
theorem dX3_joined_1 : decode cX3_joined 1 = .ok (.bipush 7, 2) := by decide +kernel
theorem dX3_joined_3 : decode cX3_joined 3 = .ok (.irem, 1) := by decide +kernel
theorem dX3_joined_4 : decode cX3_joined 4 = .ok (.ifCond .le 22, 3) := by decide +kernel
theorem dX3_joined_7 : decode cX3_joined 7 = .ok (.iload_n 0, 1) := by decide +kernel
theorem dX3_joined_8 : decode cX3_joined 8 = .ok (.bipush 7, 2) := by decide +kernel
theorem dX3_joined_10 : decode cX3_joined 10 = .ok (.irem, 1) := by decide +kernel
theorem dX3_joined_11 : decode cX3_joined 11 = .ok (.iconst 1, 1) := by decide +kernel
theorem dX3_joined_12 : decode cX3_joined 12 = .ok (.isub, 1) := by decide +kernel
theorem dX3_joined_13 : decode cX3_joined 13 = .ok (.iconst 1, 1) := by decide +kernel
theorem dX3_joined_14 : decode cX3_joined 14 = .ok (.ixor, 1) := by decide +kernel
theorem dX3_joined_15 : decode cX3_joined 15 = .ok (.iload_n 1, 1) := by decide +kernel
theorem dX3_joined_16 : decode cX3_joined 16 = .ok (.if_icmp .ne 10, 3) := by decide +kernel
theorem dX3_joined_19 : decode cX3_joined 19 = .ok (.iload_n 0, 1) := by decide +kernel
theorem dX3_joined_20 : decode cX3_joined 20 = .ok (.bipush 7, 2) := by decide +kernel
theorem dX3_joined_22 : decode cX3_joined 22 = .ok (.idiv, 1) := by decide +kernel
theorem dX3_joined_23 : decode cX3_joined 23 = .ok (.goto 11, 3) := by decide +kernel
theorem dX3_joined_26 : decode cX3_joined 26 = .ok (.bipush 7, 2) := by decide +kernel
theorem dX3_joined_28 : decode cX3_joined 28 = .ok (.iload_n 0, 1) := by decide +kernel
theorem dX3_joined_29 : decode cX3_joined 29 = .ok (.imul, 1) := by decide +kernel
theorem dX3_joined_30 : decode cX3_joined 30 = .ok (.iload_n 1, 1) := by decide +kernel
theorem dX3_joined_31 : decode cX3_joined 31 = .ok (.iadd, 1) := by decide +kernel
theorem dX3_joined_32 : decode cX3_joined 32 = .ok (.iconst 1, 1) := by decide +kernel
theorem dX3_joined_33 : decode cX3_joined 33 = .ok (.iadd, 1) := by decide +kernel
theorem dX3_joined_34 : decode cX3_joined 34 = .ok (.ireturn, 1) := by decide +kernel
theorem dX3_size_0 : decode cX3_size 0 = .ok (.iconst 0, 1) := by decide +kernel
theorem dX3_size_1 : decode cX3_size 1 = .ok (.istore_n 1, 1) := by decide +kernel
theorem dX3_size_2 : decode cX3_size 2 = .ok (.iload_n 0, 1) := by decide +kernel
theorem dX3_size_3 : decode cX3_size 3 = .ok (.istore_n 2, 1) := by decide +kernel
theorem dX3_size_4 : decode cX3_size 4 = .ok (.iload_n 2, 1) := by decide +kernel
theorem dX3_size_5 : decode cX3_size 5 = .ok (.ifCond .le 14, 3) := by decide +kernel
theorem dX3_size_8 : decode cX3_size 8 = .ok (.iinc 1 1, 3) := by decide +kernel
theorem dX3_size_11 : decode cX3_size 11 = .ok (.iload_n 2, 1) := by decide +kernel
theorem dX3_size_12 : decode cX3_size 12 = .ok (.bipush 7, 2) := by decide +kernel
theorem dX3_size_14 : decode cX3_size 14 = .ok (.idiv, 1) := by decide +kernel
theorem dX3_size_15 : decode cX3_size 15 = .ok (.istore_n 2, 1) := by decide +kernel
theorem dX3_size_16 : decode cX3_size 16 = .ok (.goto (-12), 3) := by decide +kernel
theorem dX3_size_19 : decode cX3_size 19 = .ok (.iload_n 1, 1) := by decide +kernel
theorem dX3_size_20 : decode cX3_size 20 = .ok (.ireturn, 1) := by decide +kernel
theorem dX3_pillarBelow_0 : decode cX3_pillarBelow 0 = .ok (.iconst (-1), 1) := by decide +kernel
theorem dX3_pillarBelow_1 : decode cX3_pillarBelow 1 = .ok (.istore_n 3, 1) := by decide +kernel
theorem dX3_pillarBelow_2 : decode cX3_pillarBelow 2 = .ok (.iconst 0, 1) := by decide +kernel
theorem dX3_pillarBelow_3 : decode cX3_pillarBelow 3 = .ok (.istore 4, 2) := by decide +kernel
theorem dX3_pillarBelow_5 : decode cX3_pillarBelow 5 = .ok (.iload 4, 2) := by decide +kernel
theorem dX3_pillarBelow_7 : decode cX3_pillarBelow 7 = .ok (.aload_n 0, 1) := by decide +kernel
theorem dX3_pillarBelow_8 : decode cX3_pillarBelow 8 = .ok (.getfield 49, 3) := by decide +kernel
theorem dX3_pillarBelow_11 : decode cX3_pillarBelow 11 = .ok (.if_icmp .ge 71, 3) := by decide +kernel
theorem dX3_pillarBelow_14 : decode cX3_pillarBelow 14 = .ok (.aload_n 0, 1) := by decide +kernel
theorem dX3_pillarBelow_15 : decode cX3_pillarBelow 15 = .ok (.getfield 7, 3) := by decide +kernel
theorem dX3_pillarBelow_18 : decode cX3_pillarBelow 18 = .ok (.iload 4, 2) := by decide +kernel
theorem dX3_pillarBelow_20 : decode cX3_pillarBelow 20 = .ok (.iaload, 1) := by decide +kernel
theorem dX3_pillarBelow_21 : decode cX3_pillarBelow 21 = .ok (.iload_n 1, 1) := by decide +kernel
theorem dX3_pillarBelow_22 : decode cX3_pillarBelow 22 = .ok (.if_icmp .ne 18, 3) := by decide +kernel
theorem dX3_pillarBelow_25 : decode cX3_pillarBelow 25 = .ok (.aload_n 0, 1) := by decide +kernel
theorem dX3_pillarBelow_26 : decode cX3_pillarBelow 26 = .ok (.getfield 13, 3) := by decide +kernel
theorem dX3_pillarBelow_29 : decode cX3_pillarBelow 29 = .ok (.iload 4, 2) := by decide +kernel
theorem dX3_pillarBelow_31 : decode cX3_pillarBelow 31 = .ok (.iaload, 1) := by decide +kernel
theorem dX3_pillarBelow_32 : decode cX3_pillarBelow 32 = .ok (.iload_n 2, 1) := by decide +kernel
theorem dX3_pillarBelow_33 : decode cX3_pillarBelow 33 = .ok (.if_icmp .le 7, 3) := by decide +kernel
theorem dX3_pillarBelow_36 : decode cX3_pillarBelow 36 = .ok (.iconst 1, 1) := by decide +kernel
theorem dX3_pillarBelow_37 : decode cX3_pillarBelow 37 = .ok (.goto 4, 3) := by decide +kernel
theorem dX3_pillarBelow_40 : decode cX3_pillarBelow 40 = .ok (.iconst 0, 1) := by decide +kernel
theorem dX3_pillarBelow_41 : decode cX3_pillarBelow 41 = .ok (.istore 5, 2) := by decide +kernel
theorem dX3_pillarBelow_43 : decode cX3_pillarBelow 43 = .ok (.iload 5, 2) := by decide +kernel
theorem dX3_pillarBelow_45 : decode cX3_pillarBelow 45 = .ok (.ifCond .eq 29, 3) := by decide +kernel
theorem dX3_pillarBelow_48 : decode cX3_pillarBelow 48 = .ok (.iload_n 3, 1) := by decide +kernel
theorem dX3_pillarBelow_49 : decode cX3_pillarBelow 49 = .ok (.iconst (-1), 1) := by decide +kernel
theorem dX3_pillarBelow_50 : decode cX3_pillarBelow 50 = .ok (.if_icmp .eq 19, 3) := by decide +kernel
theorem dX3_pillarBelow_53 : decode cX3_pillarBelow 53 = .ok (.aload_n 0, 1) := by decide +kernel
theorem dX3_pillarBelow_54 : decode cX3_pillarBelow 54 = .ok (.getfield 13, 3) := by decide +kernel
theorem dX3_pillarBelow_57 : decode cX3_pillarBelow 57 = .ok (.iload 4, 2) := by decide +kernel
theorem dX3_pillarBelow_59 : decode cX3_pillarBelow 59 = .ok (.iaload, 1) := by decide +kernel
theorem dX3_pillarBelow_60 : decode cX3_pillarBelow 60 = .ok (.aload_n 0, 1) := by decide +kernel
theorem dX3_pillarBelow_61 : decode cX3_pillarBelow 61 = .ok (.getfield 13, 3) := by decide +kernel
theorem dX3_pillarBelow_64 : decode cX3_pillarBelow 64 = .ok (.iload_n 3, 1) := by decide +kernel
theorem dX3_pillarBelow_65 : decode cX3_pillarBelow 65 = .ok (.iaload, 1) := by decide +kernel
theorem dX3_pillarBelow_66 : decode cX3_pillarBelow 66 = .ok (.if_icmp .ge 8, 3) := by decide +kernel
theorem dX3_pillarBelow_69 : decode cX3_pillarBelow 69 = .ok (.iload 4, 2) := by decide +kernel
theorem dX3_pillarBelow_71 : decode cX3_pillarBelow 71 = .ok (.goto 4, 3) := by decide +kernel
theorem dX3_pillarBelow_74 : decode cX3_pillarBelow 74 = .ok (.iload_n 3, 1) := by decide +kernel
theorem dX3_pillarBelow_75 : decode cX3_pillarBelow 75 = .ok (.istore_n 3, 1) := by decide +kernel
theorem dX3_pillarBelow_76 : decode cX3_pillarBelow 76 = .ok (.iinc 4 1, 3) := by decide +kernel
theorem dX3_pillarBelow_79 : decode cX3_pillarBelow 79 = .ok (.goto (-74), 3) := by decide +kernel
theorem dX3_pillarBelow_82 : decode cX3_pillarBelow 82 = .ok (.iload_n 3, 1) := by decide +kernel
theorem dX3_pillarBelow_83 : decode cX3_pillarBelow 83 = .ok (.ireturn, 1) := by decide +kernel
theorem dX3_pillarAbove_0 : decode cX3_pillarAbove 0 = .ok (.iconst (-1), 1) := by decide +kernel
theorem dX3_pillarAbove_1 : decode cX3_pillarAbove 1 = .ok (.istore 4, 2) := by decide +kernel
theorem dX3_pillarAbove_3 : decode cX3_pillarAbove 3 = .ok (.iconst 0, 1) := by decide +kernel
theorem dX3_pillarAbove_4 : decode cX3_pillarAbove 4 = .ok (.istore 5, 2) := by decide +kernel
theorem dX3_pillarAbove_6 : decode cX3_pillarAbove 6 = .ok (.iload 5, 2) := by decide +kernel
theorem dX3_pillarAbove_8 : decode cX3_pillarAbove 8 = .ok (.aload_n 0, 1) := by decide +kernel
theorem dX3_pillarAbove_9 : decode cX3_pillarAbove 9 = .ok (.getfield 49, 3) := by decide +kernel
theorem dX3_pillarAbove_12 : decode cX3_pillarAbove 12 = .ok (.if_icmp .ge 86, 3) := by decide +kernel
theorem dX3_pillarAbove_15 : decode cX3_pillarAbove 15 = .ok (.aload_n 0, 1) := by decide +kernel
theorem dX3_pillarAbove_16 : decode cX3_pillarAbove 16 = .ok (.getfield 7, 3) := by decide +kernel
theorem dX3_pillarAbove_19 : decode cX3_pillarAbove 19 = .ok (.iload 5, 2) := by decide +kernel
theorem dX3_pillarAbove_21 : decode cX3_pillarAbove 21 = .ok (.iaload, 1) := by decide +kernel
theorem dX3_pillarAbove_22 : decode cX3_pillarAbove 22 = .ok (.iload_n 1, 1) := by decide +kernel
theorem dX3_pillarAbove_23 : decode cX3_pillarAbove 23 = .ok (.if_icmp .ne 29, 3) := by decide +kernel
theorem dX3_pillarAbove_26 : decode cX3_pillarAbove 26 = .ok (.aload_n 0, 1) := by decide +kernel
theorem dX3_pillarAbove_27 : decode cX3_pillarAbove 27 = .ok (.getfield 13, 3) := by decide +kernel
theorem dX3_pillarAbove_30 : decode cX3_pillarAbove 30 = .ok (.iload 5, 2) := by decide +kernel
theorem dX3_pillarAbove_32 : decode cX3_pillarAbove 32 = .ok (.iaload, 1) := by decide +kernel
theorem dX3_pillarAbove_33 : decode cX3_pillarAbove 33 = .ok (.iload_n 2, 1) := by decide +kernel
theorem dX3_pillarAbove_34 : decode cX3_pillarAbove 34 = .ok (.if_icmp .le 18, 3) := by decide +kernel
theorem dX3_pillarAbove_37 : decode cX3_pillarAbove 37 = .ok (.aload_n 0, 1) := by decide +kernel
theorem dX3_pillarAbove_38 : decode cX3_pillarAbove 38 = .ok (.getfield 13, 3) := by decide +kernel
theorem dX3_pillarAbove_41 : decode cX3_pillarAbove 41 = .ok (.iload 5, 2) := by decide +kernel
theorem dX3_pillarAbove_43 : decode cX3_pillarAbove 43 = .ok (.iaload, 1) := by decide +kernel
theorem dX3_pillarAbove_44 : decode cX3_pillarAbove 44 = .ok (.iload_n 3, 1) := by decide +kernel
theorem dX3_pillarAbove_45 : decode cX3_pillarAbove 45 = .ok (.if_icmp .ge 7, 3) := by decide +kernel
theorem dX3_pillarAbove_48 : decode cX3_pillarAbove 48 = .ok (.iconst 1, 1) := by decide +kernel
theorem dX3_pillarAbove_49 : decode cX3_pillarAbove 49 = .ok (.goto 4, 3) := by decide +kernel
theorem dX3_pillarAbove_52 : decode cX3_pillarAbove 52 = .ok (.iconst 0, 1) := by decide +kernel
theorem dX3_pillarAbove_53 : decode cX3_pillarAbove 53 = .ok (.istore 6, 2) := by decide +kernel
theorem dX3_pillarAbove_55 : decode cX3_pillarAbove 55 = .ok (.iload 6, 2) := by decide +kernel
theorem dX3_pillarAbove_57 : decode cX3_pillarAbove 57 = .ok (.ifCond .eq 31, 3) := by decide +kernel
theorem dX3_pillarAbove_60 : decode cX3_pillarAbove 60 = .ok (.iload 4, 2) := by decide +kernel
theorem dX3_pillarAbove_62 : decode cX3_pillarAbove 62 = .ok (.iconst (-1), 1) := by decide +kernel
theorem dX3_pillarAbove_63 : decode cX3_pillarAbove 63 = .ok (.if_icmp .eq 20, 3) := by decide +kernel
theorem dX3_pillarAbove_66 : decode cX3_pillarAbove 66 = .ok (.aload_n 0, 1) := by decide +kernel
theorem dX3_pillarAbove_67 : decode cX3_pillarAbove 67 = .ok (.getfield 13, 3) := by decide +kernel
theorem dX3_pillarAbove_70 : decode cX3_pillarAbove 70 = .ok (.iload 5, 2) := by decide +kernel
theorem dX3_pillarAbove_72 : decode cX3_pillarAbove 72 = .ok (.iaload, 1) := by decide +kernel
theorem dX3_pillarAbove_73 : decode cX3_pillarAbove 73 = .ok (.aload_n 0, 1) := by decide +kernel
theorem dX3_pillarAbove_74 : decode cX3_pillarAbove 74 = .ok (.getfield 13, 3) := by decide +kernel
theorem dX3_pillarAbove_77 : decode cX3_pillarAbove 77 = .ok (.iload 4, 2) := by decide +kernel
theorem dX3_pillarAbove_79 : decode cX3_pillarAbove 79 = .ok (.iaload, 1) := by decide +kernel
theorem dX3_pillarAbove_80 : decode cX3_pillarAbove 80 = .ok (.if_icmp .le 8, 3) := by decide +kernel
theorem dX3_pillarAbove_83 : decode cX3_pillarAbove 83 = .ok (.iload 5, 2) := by decide +kernel
theorem dX3_pillarAbove_85 : decode cX3_pillarAbove 85 = .ok (.goto 5, 3) := by decide +kernel
theorem dX3_pillarAbove_88 : decode cX3_pillarAbove 88 = .ok (.iload 4, 2) := by decide +kernel
theorem dX3_pillarAbove_90 : decode cX3_pillarAbove 90 = .ok (.istore 4, 2) := by decide +kernel
theorem dX3_pillarAbove_92 : decode cX3_pillarAbove 92 = .ok (.iinc 5 1, 3) := by decide +kernel
theorem dX3_pillarAbove_95 : decode cX3_pillarAbove 95 = .ok (.goto (-89), 3) := by decide +kernel
theorem dX3_pillarAbove_98 : decode cX3_pillarAbove 98 = .ok (.iload 4, 2) := by decide +kernel
theorem dX3_pillarAbove_100 : decode cX3_pillarAbove 100 = .ok (.ireturn, 1) := by decide +kernel
theorem dX3_goesRight_0 : decode cX3_goesRight 0 = .ok (.iload_n 1, 1) := by decide +kernel
theorem dX3_goesRight_1 : decode cX3_goesRight 1 = .ok (.istore 4, 2) := by decide +kernel
theorem dX3_goesRight_3 : decode cX3_goesRight 3 = .ok (.aload_n 0, 1) := by decide +kernel
theorem dX3_goesRight_4 : decode cX3_goesRight 4 = .ok (.iload_n 2, 1) := by decide +kernel
theorem dX3_goesRight_5 : decode cX3_goesRight 5 = .ok (.iload_n 3, 1) := by decide +kernel
theorem dX3_goesRight_6 : decode cX3_goesRight 6 = .ok (.invokevirtual 56, 3) := by decide +kernel
theorem dX3_goesRight_9 : decode cX3_goesRight 9 = .ok (.istore 5, 2) := by decide +kernel
theorem dX3_goesRight_11 : decode cX3_goesRight 11 = .ok (.iload 5, 2) := by decide +kernel
theorem dX3_goesRight_13 : decode cX3_goesRight 13 = .ok (.iconst (-1), 1) := by decide +kernel
theorem dX3_goesRight_14 : decode cX3_goesRight 14 = .ok (.if_icmp .eq 31, 3) := by decide +kernel
theorem dX3_goesRight_17 : decode cX3_goesRight 17 = .ok (.iload 4, 2) := by decide +kernel
theorem dX3_goesRight_19 : decode cX3_goesRight 19 = .ok (.iconst 2, 1) := by decide +kernel
theorem dX3_goesRight_20 : decode cX3_goesRight 20 = .ok (.iload 5, 2) := by decide +kernel
theorem dX3_goesRight_22 : decode cX3_goesRight 22 = .ok (.imul, 1) := by decide +kernel
theorem dX3_goesRight_23 : decode cX3_goesRight 23 = .ok (.invokestatic 59, 3) := by decide +kernel
theorem dX3_goesRight_26 : decode cX3_goesRight 26 = .ok (.istore 4, 2) := by decide +kernel
theorem dX3_goesRight_28 : decode cX3_goesRight 28 = .ok (.aload_n 0, 1) := by decide +kernel
theorem dX3_goesRight_29 : decode cX3_goesRight 29 = .ok (.iload_n 2, 1) := by decide +kernel
theorem dX3_goesRight_30 : decode cX3_goesRight 30 = .ok (.aload_n 0, 1) := by decide +kernel
theorem dX3_goesRight_31 : decode cX3_goesRight 31 = .ok (.getfield 13, 3) := by decide +kernel
theorem dX3_goesRight_34 : decode cX3_goesRight 34 = .ok (.iload 5, 2) := by decide +kernel
theorem dX3_goesRight_36 : decode cX3_goesRight 36 = .ok (.iaload, 1) := by decide +kernel
theorem dX3_goesRight_37 : decode cX3_goesRight 37 = .ok (.invokevirtual 56, 3) := by decide +kernel
theorem dX3_goesRight_40 : decode cX3_goesRight 40 = .ok (.istore 5, 2) := by decide +kernel
theorem dX3_goesRight_42 : decode cX3_goesRight 42 = .ok (.goto (-31), 3) := by decide +kernel
theorem dX3_goesRight_45 : decode cX3_goesRight 45 = .ok (.iload 4, 2) := by decide +kernel
theorem dX3_goesRight_47 : decode cX3_goesRight 47 = .ok (.ireturn, 1) := by decide +kernel
theorem dX3_goesLeft_0 : decode cX3_goesLeft 0 = .ok (.iload_n 1, 1) := by decide +kernel
theorem dX3_goesLeft_1 : decode cX3_goesLeft 1 = .ok (.istore 4, 2) := by decide +kernel
theorem dX3_goesLeft_3 : decode cX3_goesLeft 3 = .ok (.aload_n 0, 1) := by decide +kernel
theorem dX3_goesLeft_4 : decode cX3_goesLeft 4 = .ok (.iload_n 2, 1) := by decide +kernel
theorem dX3_goesLeft_5 : decode cX3_goesLeft 5 = .ok (.iload_n 3, 1) := by decide +kernel
theorem dX3_goesLeft_6 : decode cX3_goesLeft 6 = .ok (.bipush 7, 2) := by decide +kernel
theorem dX3_goesLeft_8 : decode cX3_goesLeft 8 = .ok (.invokevirtual 62, 3) := by decide +kernel
theorem dX3_goesLeft_11 : decode cX3_goesLeft 11 = .ok (.istore 5, 2) := by decide +kernel
theorem dX3_goesLeft_13 : decode cX3_goesLeft 13 = .ok (.iload 5, 2) := by decide +kernel
theorem dX3_goesLeft_15 : decode cX3_goesLeft 15 = .ok (.iconst (-1), 1) := by decide +kernel
theorem dX3_goesLeft_16 : decode cX3_goesLeft 16 = .ok (.if_icmp .eq 34, 3) := by decide +kernel
theorem dX3_goesLeft_19 : decode cX3_goesLeft 19 = .ok (.iload 4, 2) := by decide +kernel
theorem dX3_goesLeft_21 : decode cX3_goesLeft 21 = .ok (.iconst 2, 1) := by decide +kernel
theorem dX3_goesLeft_22 : decode cX3_goesLeft 22 = .ok (.iload 5, 2) := by decide +kernel
theorem dX3_goesLeft_24 : decode cX3_goesLeft 24 = .ok (.imul, 1) := by decide +kernel
theorem dX3_goesLeft_25 : decode cX3_goesLeft 25 = .ok (.iconst 1, 1) := by decide +kernel
theorem dX3_goesLeft_26 : decode cX3_goesLeft 26 = .ok (.iadd, 1) := by decide +kernel
theorem dX3_goesLeft_27 : decode cX3_goesLeft 27 = .ok (.invokestatic 59, 3) := by decide +kernel
theorem dX3_goesLeft_30 : decode cX3_goesLeft 30 = .ok (.istore 4, 2) := by decide +kernel
theorem dX3_goesLeft_32 : decode cX3_goesLeft 32 = .ok (.aload_n 0, 1) := by decide +kernel
theorem dX3_goesLeft_33 : decode cX3_goesLeft 33 = .ok (.iload_n 2, 1) := by decide +kernel
theorem dX3_goesLeft_34 : decode cX3_goesLeft 34 = .ok (.iload_n 3, 1) := by decide +kernel
theorem dX3_goesLeft_35 : decode cX3_goesLeft 35 = .ok (.aload_n 0, 1) := by decide +kernel
theorem dX3_goesLeft_36 : decode cX3_goesLeft 36 = .ok (.getfield 13, 3) := by decide +kernel
theorem dX3_goesLeft_39 : decode cX3_goesLeft 39 = .ok (.iload 5, 2) := by decide +kernel
theorem dX3_goesLeft_41 : decode cX3_goesLeft 41 = .ok (.iaload, 1) := by decide +kernel
theorem dX3_goesLeft_42 : decode cX3_goesLeft 42 = .ok (.invokevirtual 62, 3) := by decide +kernel
theorem dX3_goesLeft_45 : decode cX3_goesLeft 45 = .ok (.istore 5, 2) := by decide +kernel
theorem dX3_goesLeft_47 : decode cX3_goesLeft 47 = .ok (.goto (-34), 3) := by decide +kernel
theorem dX3_goesLeft_50 : decode cX3_goesLeft 50 = .ok (.iload 4, 2) := by decide +kernel
theorem dX3_goesLeft_52 : decode cX3_goesLeft 52 = .ok (.ireturn, 1) := by decide +kernel
theorem dX3_after_0 : decode cX3_after 0 = .ok (.iload_n 1, 1) := by decide +kernel
theorem dX3_after_1 : decode cX3_after 1 = .ok (.sipush 343, 3) := by decide +kernel
theorem dX3_after_4 : decode cX3_after 4 = .ok (.idiv, 1) := by decide +kernel
theorem dX3_after_5 : decode cX3_after 5 = .ok (.istore_n 3, 1) := by decide +kernel
theorem dX3_after_6 : decode cX3_after 6 = .ok (.iload_n 1, 1) := by decide +kernel
theorem dX3_after_7 : decode cX3_after 7 = .ok (.sipush 343, 3) := by decide +kernel
theorem dX3_after_10 : decode cX3_after 10 = .ok (.irem, 1) := by decide +kernel
theorem dX3_after_11 : decode cX3_after 11 = .ok (.istore 4, 2) := by decide +kernel
theorem dX3_after_13 : decode cX3_after 13 = .ok (.iload_n 3, 1) := by decide +kernel
theorem dX3_after_14 : decode cX3_after 14 = .ok (.bipush 7, 2) := by decide +kernel
theorem dX3_after_16 : decode cX3_after 16 = .ok (.irem, 1) := by decide +kernel
theorem dX3_after_17 : decode cX3_after 17 = .ok (.iload_n 2, 1) := by decide +kernel
theorem dX3_after_18 : decode cX3_after 18 = .ok (.iconst 1, 1) := by decide +kernel
theorem dX3_after_19 : decode cX3_after 19 = .ok (.if_icmp .ne 7, 3) := by decide +kernel
theorem dX3_after_22 : decode cX3_after 22 = .ok (.iconst 1, 1) := by decide +kernel
theorem dX3_after_23 : decode cX3_after 23 = .ok (.goto 13, 3) := by decide +kernel
theorem dX3_after_26 : decode cX3_after 26 = .ok (.iload_n 2, 1) := by decide +kernel
theorem dX3_after_27 : decode cX3_after 27 = .ok (.iconst 3, 1) := by decide +kernel
theorem dX3_after_28 : decode cX3_after 28 = .ok (.if_icmp .ne 7, 3) := by decide +kernel
theorem dX3_after_31 : decode cX3_after 31 = .ok (.iconst (-1), 1) := by decide +kernel
theorem dX3_after_32 : decode cX3_after 32 = .ok (.goto 4, 3) := by decide +kernel
theorem dX3_after_35 : decode cX3_after 35 = .ok (.iconst 0, 1) := by decide +kernel
theorem dX3_after_36 : decode cX3_after 36 = .ok (.iadd, 1) := by decide +kernel
theorem dX3_after_37 : decode cX3_after 37 = .ok (.istore 5, 2) := by decide +kernel
theorem dX3_after_39 : decode cX3_after 39 = .ok (.iload_n 3, 1) := by decide +kernel
theorem dX3_after_40 : decode cX3_after 40 = .ok (.bipush 7, 2) := by decide +kernel
theorem dX3_after_42 : decode cX3_after 42 = .ok (.idiv, 1) := by decide +kernel
theorem dX3_after_43 : decode cX3_after 43 = .ok (.iload_n 2, 1) := by decide +kernel
theorem dX3_after_44 : decode cX3_after 44 = .ok (.iconst 2, 1) := by decide +kernel
theorem dX3_after_45 : decode cX3_after 45 = .ok (.if_icmp .ne 7, 3) := by decide +kernel
theorem dX3_after_48 : decode cX3_after 48 = .ok (.iconst 1, 1) := by decide +kernel
theorem dX3_after_49 : decode cX3_after 49 = .ok (.goto 12, 3) := by decide +kernel
theorem dX3_after_52 : decode cX3_after 52 = .ok (.iload_n 2, 1) := by decide +kernel
theorem dX3_after_53 : decode cX3_after 53 = .ok (.ifCond .ne 7, 3) := by decide +kernel
theorem dX3_after_56 : decode cX3_after 56 = .ok (.iconst (-1), 1) := by decide +kernel
theorem dX3_after_57 : decode cX3_after 57 = .ok (.goto 4, 3) := by decide +kernel
theorem dX3_after_60 : decode cX3_after 60 = .ok (.iconst 0, 1) := by decide +kernel
theorem dX3_after_61 : decode cX3_after 61 = .ok (.iadd, 1) := by decide +kernel
theorem dX3_after_62 : decode cX3_after 62 = .ok (.istore 6, 2) := by decide +kernel
theorem dX3_after_64 : decode cX3_after 64 = .ok (.aload_n 0, 1) := by decide +kernel
theorem dX3_after_65 : decode cX3_after 65 = .ok (.iload 5, 2) := by decide +kernel
theorem dX3_after_67 : decode cX3_after 67 = .ok (.iload 6, 2) := by decide +kernel
theorem dX3_after_69 : decode cX3_after 69 = .ok (.invokevirtual 65, 3) := by decide +kernel
theorem dX3_after_72 : decode cX3_after 72 = .ok (.ifCond .eq 17, 3) := by decide +kernel
theorem dX3_after_75 : decode cX3_after 75 = .ok (.aload_n 0, 1) := by decide +kernel
theorem dX3_after_76 : decode cX3_after 76 = .ok (.iload 5, 2) := by decide +kernel
theorem dX3_after_78 : decode cX3_after 78 = .ok (.iload 6, 2) := by decide +kernel
theorem dX3_after_80 : decode cX3_after 80 = .ok (.invokestatic 52, 3) := by decide +kernel
theorem dX3_after_83 : decode cX3_after 83 = .ok (.invokevirtual 69, 3) := by decide +kernel
theorem dX3_after_86 : decode cX3_after 86 = .ok (.ifCond .eq 5, 3) := by decide +kernel
theorem dX3_after_89 : decode cX3_after 89 = .ok (.iconst (-1), 1) := by decide +kernel
theorem dX3_after_90 : decode cX3_after 90 = .ok (.ireturn, 1) := by decide +kernel
theorem dX3_after_91 : decode cX3_after 91 = .ok (.iload_n 2, 1) := by decide +kernel
theorem dX3_after_92 : decode cX3_after 92 = .ok (.iconst 1, 1) := by decide +kernel
theorem dX3_after_93 : decode cX3_after 93 = .ok (.if_icmp .ne 18, 3) := by decide +kernel
theorem dX3_after_96 : decode cX3_after 96 = .ok (.aload_n 0, 1) := by decide +kernel
theorem dX3_after_97 : decode cX3_after 97 = .ok (.iload 4, 2) := by decide +kernel
theorem dX3_after_99 : decode cX3_after 99 = .ok (.iload 5, 2) := by decide +kernel
theorem dX3_after_101 : decode cX3_after 101 = .ok (.iconst 1, 1) := by decide +kernel
theorem dX3_after_102 : decode cX3_after 102 = .ok (.isub, 1) := by decide +kernel
theorem dX3_after_103 : decode cX3_after 103 = .ok (.iload 6, 2) := by decide +kernel
theorem dX3_after_105 : decode cX3_after 105 = .ok (.invokevirtual 73, 3) := by decide +kernel
theorem dX3_after_108 : decode cX3_after 108 = .ok (.goto 23, 3) := by decide +kernel
theorem dX3_after_111 : decode cX3_after 111 = .ok (.iload_n 2, 1) := by decide +kernel
theorem dX3_after_112 : decode cX3_after 112 = .ok (.iconst 3, 1) := by decide +kernel
theorem dX3_after_113 : decode cX3_after 113 = .ok (.if_icmp .ne 16, 3) := by decide +kernel
theorem dX3_after_116 : decode cX3_after 116 = .ok (.aload_n 0, 1) := by decide +kernel
theorem dX3_after_117 : decode cX3_after 117 = .ok (.iload 4, 2) := by decide +kernel
theorem dX3_after_119 : decode cX3_after 119 = .ok (.iload 5, 2) := by decide +kernel
theorem dX3_after_121 : decode cX3_after 121 = .ok (.iload 6, 2) := by decide +kernel
theorem dX3_after_123 : decode cX3_after 123 = .ok (.invokevirtual 76, 3) := by decide +kernel
theorem dX3_after_126 : decode cX3_after 126 = .ok (.goto 5, 3) := by decide +kernel
theorem dX3_after_129 : decode cX3_after 129 = .ok (.iload 4, 2) := by decide +kernel
theorem dX3_after_131 : decode cX3_after 131 = .ok (.istore 7, 2) := by decide +kernel
theorem dX3_after_133 : decode cX3_after 133 = .ok (.iload 7, 2) := by decide +kernel
theorem dX3_after_135 : decode cX3_after 135 = .ok (.sipush 343, 3) := by decide +kernel
theorem dX3_after_138 : decode cX3_after 138 = .ok (.if_icmp .ge 20, 3) := by decide +kernel
theorem dX3_after_141 : decode cX3_after 141 = .ok (.sipush 343, 3) := by decide +kernel
theorem dX3_after_144 : decode cX3_after 144 = .ok (.iload 5, 2) := by decide +kernel
theorem dX3_after_146 : decode cX3_after 146 = .ok (.iload 6, 2) := by decide +kernel
theorem dX3_after_148 : decode cX3_after 148 = .ok (.invokestatic 52, 3) := by decide +kernel
theorem dX3_after_151 : decode cX3_after 151 = .ok (.imul, 1) := by decide +kernel
theorem dX3_after_152 : decode cX3_after 152 = .ok (.iload 7, 2) := by decide +kernel
theorem dX3_after_154 : decode cX3_after 154 = .ok (.iadd, 1) := by decide +kernel
theorem dX3_after_155 : decode cX3_after 155 = .ok (.goto 4, 3) := by decide +kernel
theorem dX3_after_158 : decode cX3_after 158 = .ok (.iconst (-1), 1) := by decide +kernel
theorem dX3_after_159 : decode cX3_after 159 = .ok (.ireturn, 1) := by decide +kernel
theorem dX3_searches_0 : decode cX3_searches 0 = .ok (.iconst 0, 1) := by decide +kernel
theorem dX3_searches_1 : decode cX3_searches 1 = .ok (.istore_n 1, 1) := by decide +kernel
theorem dX3_searches_2 : decode cX3_searches 2 = .ok (.iload_n 1, 1) := by decide +kernel
theorem dX3_searches_3 : decode cX3_searches 3 = .ok (.sipush 16807, 3) := by decide +kernel
theorem dX3_searches_6 : decode cX3_searches 6 = .ok (.if_icmp .ge 16, 3) := by decide +kernel
theorem dX3_searches_9 : decode cX3_searches 9 = .ok (.aload_n 0, 1) := by decide +kernel
theorem dX3_searches_10 : decode cX3_searches 10 = .ok (.getfield 16, 3) := by decide +kernel
theorem dX3_searches_13 : decode cX3_searches 13 = .ok (.iload_n 1, 1) := by decide +kernel
theorem dX3_searches_14 : decode cX3_searches 14 = .ok (.iconst (-1), 1) := by decide +kernel
theorem dX3_searches_15 : decode cX3_searches 15 = .ok (.iastore, 1) := by decide +kernel
theorem dX3_searches_16 : decode cX3_searches 16 = .ok (.iinc 1 1, 3) := by decide +kernel
theorem dX3_searches_19 : decode cX3_searches 19 = .ok (.goto (-17), 3) := by decide +kernel
theorem dX3_searches_22 : decode cX3_searches 22 = .ok (.iconst 1, 1) := by decide +kernel
theorem dX3_searches_23 : decode cX3_searches 23 = .ok (.istore_n 1, 1) := by decide +kernel
theorem dX3_searches_24 : decode cX3_searches 24 = .ok (.aload_n 0, 1) := by decide +kernel
theorem dX3_searches_25 : decode cX3_searches 25 = .ok (.getfield 19, 3) := by decide +kernel
theorem dX3_searches_28 : decode cX3_searches 28 = .ok (.iconst 0, 1) := by decide +kernel
theorem dX3_searches_29 : decode cX3_searches 29 = .ok (.sipush 343, 3) := by decide +kernel
theorem dX3_searches_32 : decode cX3_searches 32 = .ok (.aload_n 0, 1) := by decide +kernel
theorem dX3_searches_33 : decode cX3_searches 33 = .ok (.getfield 79, 3) := by decide +kernel
theorem dX3_searches_36 : decode cX3_searches 36 = .ok (.imul, 1) := by decide +kernel
theorem dX3_searches_37 : decode cX3_searches 37 = .ok (.iastore, 1) := by decide +kernel
theorem dX3_searches_38 : decode cX3_searches 38 = .ok (.aload_n 0, 1) := by decide +kernel
theorem dX3_searches_39 : decode cX3_searches 39 = .ok (.getfield 16, 3) := by decide +kernel
theorem dX3_searches_42 : decode cX3_searches 42 = .ok (.aload_n 0, 1) := by decide +kernel
theorem dX3_searches_43 : decode cX3_searches 43 = .ok (.getfield 19, 3) := by decide +kernel
theorem dX3_searches_46 : decode cX3_searches 46 = .ok (.iconst 0, 1) := by decide +kernel
theorem dX3_searches_47 : decode cX3_searches 47 = .ok (.iaload, 1) := by decide +kernel
theorem dX3_searches_48 : decode cX3_searches 48 = .ok (.iconst 0, 1) := by decide +kernel
theorem dX3_searches_49 : decode cX3_searches 49 = .ok (.iastore, 1) := by decide +kernel
theorem dX3_searches_50 : decode cX3_searches 50 = .ok (.iconst 0, 1) := by decide +kernel
theorem dX3_searches_51 : decode cX3_searches 51 = .ok (.istore_n 2, 1) := by decide +kernel
theorem dX3_searches_52 : decode cX3_searches 52 = .ok (.iload_n 2, 1) := by decide +kernel
theorem dX3_searches_53 : decode cX3_searches 53 = .ok (.iload_n 1, 1) := by decide +kernel
theorem dX3_searches_54 : decode cX3_searches 54 = .ok (.if_icmp .ge 83, 3) := by decide +kernel
theorem dX3_searches_57 : decode cX3_searches 57 = .ok (.iconst 0, 1) := by decide +kernel
theorem dX3_searches_58 : decode cX3_searches 58 = .ok (.istore_n 3, 1) := by decide +kernel
theorem dX3_searches_59 : decode cX3_searches 59 = .ok (.iload_n 3, 1) := by decide +kernel
theorem dX3_searches_60 : decode cX3_searches 60 = .ok (.iconst 4, 1) := by decide +kernel
theorem dX3_searches_61 : decode cX3_searches 61 = .ok (.if_icmp .ge 70, 3) := by decide +kernel
theorem dX3_searches_64 : decode cX3_searches 64 = .ok (.aload_n 0, 1) := by decide +kernel
theorem dX3_searches_65 : decode cX3_searches 65 = .ok (.aload_n 0, 1) := by decide +kernel
theorem dX3_searches_66 : decode cX3_searches 66 = .ok (.getfield 19, 3) := by decide +kernel
theorem dX3_searches_69 : decode cX3_searches 69 = .ok (.iload_n 2, 1) := by decide +kernel
theorem dX3_searches_70 : decode cX3_searches 70 = .ok (.iaload, 1) := by decide +kernel
theorem dX3_searches_71 : decode cX3_searches 71 = .ok (.iload_n 3, 1) := by decide +kernel
theorem dX3_searches_72 : decode cX3_searches 72 = .ok (.invokevirtual 82, 3) := by decide +kernel
theorem dX3_searches_75 : decode cX3_searches 75 = .ok (.istore 4, 2) := by decide +kernel
theorem dX3_searches_77 : decode cX3_searches 77 = .ok (.iload 4, 2) := by decide +kernel
theorem dX3_searches_79 : decode cX3_searches 79 = .ok (.iconst (-1), 1) := by decide +kernel
theorem dX3_searches_80 : decode cX3_searches 80 = .ok (.if_icmp .eq 45, 3) := by decide +kernel
theorem dX3_searches_83 : decode cX3_searches 83 = .ok (.aload_n 0, 1) := by decide +kernel
theorem dX3_searches_84 : decode cX3_searches 84 = .ok (.getfield 16, 3) := by decide +kernel
theorem dX3_searches_87 : decode cX3_searches 87 = .ok (.iload 4, 2) := by decide +kernel
theorem dX3_searches_89 : decode cX3_searches 89 = .ok (.iaload, 1) := by decide +kernel
theorem dX3_searches_90 : decode cX3_searches 90 = .ok (.iconst (-1), 1) := by decide +kernel
theorem dX3_searches_91 : decode cX3_searches 91 = .ok (.if_icmp .ne 34, 3) := by decide +kernel
theorem dX3_searches_94 : decode cX3_searches 94 = .ok (.aload_n 0, 1) := by decide +kernel
theorem dX3_searches_95 : decode cX3_searches 95 = .ok (.getfield 16, 3) := by decide +kernel
theorem dX3_searches_98 : decode cX3_searches 98 = .ok (.iload 4, 2) := by decide +kernel
theorem dX3_searches_100 : decode cX3_searches 100 = .ok (.aload_n 0, 1) := by decide +kernel
theorem dX3_searches_101 : decode cX3_searches 101 = .ok (.getfield 16, 3) := by decide +kernel
theorem dX3_searches_104 : decode cX3_searches 104 = .ok (.aload_n 0, 1) := by decide +kernel
theorem dX3_searches_105 : decode cX3_searches 105 = .ok (.getfield 19, 3) := by decide +kernel
theorem dX3_searches_108 : decode cX3_searches 108 = .ok (.iload_n 2, 1) := by decide +kernel
theorem dX3_searches_109 : decode cX3_searches 109 = .ok (.iaload, 1) := by decide +kernel
theorem dX3_searches_110 : decode cX3_searches 110 = .ok (.iaload, 1) := by decide +kernel
theorem dX3_searches_111 : decode cX3_searches 111 = .ok (.iconst 1, 1) := by decide +kernel
theorem dX3_searches_112 : decode cX3_searches 112 = .ok (.iadd, 1) := by decide +kernel
theorem dX3_searches_113 : decode cX3_searches 113 = .ok (.iastore, 1) := by decide +kernel
theorem dX3_searches_114 : decode cX3_searches 114 = .ok (.aload_n 0, 1) := by decide +kernel
theorem dX3_searches_115 : decode cX3_searches 115 = .ok (.getfield 19, 3) := by decide +kernel
theorem dX3_searches_118 : decode cX3_searches 118 = .ok (.iload_n 1, 1) := by decide +kernel
theorem dX3_searches_119 : decode cX3_searches 119 = .ok (.iload 4, 2) := by decide +kernel
theorem dX3_searches_121 : decode cX3_searches 121 = .ok (.iastore, 1) := by decide +kernel
theorem dX3_searches_122 : decode cX3_searches 122 = .ok (.iinc 1 1, 3) := by decide +kernel
theorem dX3_searches_125 : decode cX3_searches 125 = .ok (.iinc 3 1, 3) := by decide +kernel
theorem dX3_searches_128 : decode cX3_searches 128 = .ok (.goto (-69), 3) := by decide +kernel
theorem dX3_searches_131 : decode cX3_searches 131 = .ok (.iinc 2 1, 3) := by decide +kernel
theorem dX3_searches_134 : decode cX3_searches 134 = .ok (.goto (-82), 3) := by decide +kernel
theorem dX3_searches_137 : decode cX3_searches 137 = .ok (.return_, 1) := by decide +kernel
theorem dX3_place_0 : decode cX3_place 0 = .ok (.sipush 343, 3) := by decide +kernel
theorem dX3_place_3 : decode cX3_place 3 = .ok (.aload_n 0, 1) := by decide +kernel
theorem dX3_place_4 : decode cX3_place 4 = .ok (.getfield 85, 3) := by decide +kernel
theorem dX3_place_7 : decode cX3_place 7 = .ok (.imul, 1) := by decide +kernel
theorem dX3_place_8 : decode cX3_place 8 = .ok (.aload_n 0, 1) := by decide +kernel
theorem dX3_place_9 : decode cX3_place 9 = .ok (.getfield 88, 3) := by decide +kernel
theorem dX3_place_12 : decode cX3_place 12 = .ok (.iadd, 1) := by decide +kernel
theorem dX3_place_13 : decode cX3_place 13 = .ok (.ireturn, 1) := by decide +kernel
theorem dX3_puts_0 : decode cX3_puts 0 = .ok (.aload_n 0, 1) := by decide +kernel
theorem dX3_puts_1 : decode cX3_puts 1 = .ok (.iload_n 1, 1) := by decide +kernel
theorem dX3_puts_2 : decode cX3_puts 2 = .ok (.sipush 343, 3) := by decide +kernel
theorem dX3_puts_5 : decode cX3_puts 5 = .ok (.idiv, 1) := by decide +kernel
theorem dX3_puts_6 : decode cX3_puts 6 = .ok (.putfield 85, 3) := by decide +kernel
theorem dX3_puts_9 : decode cX3_puts 9 = .ok (.aload_n 0, 1) := by decide +kernel
theorem dX3_puts_10 : decode cX3_puts 10 = .ok (.iload_n 1, 1) := by decide +kernel
theorem dX3_puts_11 : decode cX3_puts 11 = .ok (.sipush 343, 3) := by decide +kernel
theorem dX3_puts_14 : decode cX3_puts 14 = .ok (.irem, 1) := by decide +kernel
theorem dX3_puts_15 : decode cX3_puts 15 = .ok (.putfield 88, 3) := by decide +kernel
theorem dX3_puts_18 : decode cX3_puts 18 = .ok (.aload_n 0, 1) := by decide +kernel
theorem dX3_puts_19 : decode cX3_puts 19 = .ok (.dup, 1) := by decide +kernel
theorem dX3_puts_20 : decode cX3_puts 20 = .ok (.getfield 91, 3) := by decide +kernel
theorem dX3_puts_23 : decode cX3_puts 23 = .ok (.iconst 1, 1) := by decide +kernel
theorem dX3_puts_24 : decode cX3_puts 24 = .ok (.iadd, 1) := by decide +kernel
theorem dX3_puts_25 : decode cX3_puts 25 = .ok (.putfield 91, 3) := by decide +kernel
theorem dX3_puts_28 : decode cX3_puts 28 = .ok (.return_, 1) := by decide +kernel
theorem dX3_pillar_0 : decode cX3_pillar 0 = .ok (.aload_n 0, 1) := by decide +kernel
theorem dX3_pillar_1 : decode cX3_pillar 1 = .ok (.iload_n 1, 1) := by decide +kernel
theorem dX3_pillar_2 : decode cX3_pillar 2 = .ok (.iload_n 2, 1) := by decide +kernel
theorem dX3_pillar_3 : decode cX3_pillar 3 = .ok (.invokevirtual 65, 3) := by decide +kernel
theorem dX3_pillar_6 : decode cX3_pillar 6 = .ok (.istore_n 3, 1) := by decide +kernel
theorem dX3_pillar_7 : decode cX3_pillar 7 = .ok (.iload_n 1, 1) := by decide +kernel
theorem dX3_pillar_8 : decode cX3_pillar 8 = .ok (.iload_n 2, 1) := by decide +kernel
theorem dX3_pillar_9 : decode cX3_pillar 9 = .ok (.invokestatic 52, 3) := by decide +kernel
theorem dX3_pillar_12 : decode cX3_pillar 12 = .ok (.istore 4, 2) := by decide +kernel
theorem dX3_pillar_14 : decode cX3_pillar 14 = .ok (.aload_n 0, 1) := by decide +kernel
theorem dX3_pillar_15 : decode cX3_pillar 15 = .ok (.getfield 49, 3) := by decide +kernel
theorem dX3_pillar_18 : decode cX3_pillar 18 = .ok (.iconst 3, 1) := by decide +kernel
theorem dX3_pillar_19 : decode cX3_pillar 19 = .ok (.if_icmp .eq 39, 3) := by decide +kernel
theorem dX3_pillar_22 : decode cX3_pillar 22 = .ok (.aload_n 0, 1) := by decide +kernel
theorem dX3_pillar_23 : decode cX3_pillar 23 = .ok (.getfield 85, 3) := by decide +kernel
theorem dX3_pillar_26 : decode cX3_pillar 26 = .ok (.aload_n 0, 1) := by decide +kernel
theorem dX3_pillar_27 : decode cX3_pillar 27 = .ok (.getfield 79, 3) := by decide +kernel
theorem dX3_pillar_30 : decode cX3_pillar 30 = .ok (.if_icmp .ne 28, 3) := by decide +kernel
theorem dX3_pillar_33 : decode cX3_pillar 33 = .ok (.aload_n 0, 1) := by decide +kernel
theorem dX3_pillar_34 : decode cX3_pillar 34 = .ok (.getfield 88, 3) := by decide +kernel
theorem dX3_pillar_37 : decode cX3_pillar 37 = .ok (.ifCond .ne 21, 3) := by decide +kernel
theorem dX3_pillar_40 : decode cX3_pillar 40 = .ok (.iload 4, 2) := by decide +kernel
theorem dX3_pillar_42 : decode cX3_pillar 42 = .ok (.aload_n 0, 1) := by decide +kernel
theorem dX3_pillar_43 : decode cX3_pillar 43 = .ok (.getfield 79, 3) := by decide +kernel
theorem dX3_pillar_46 : decode cX3_pillar 46 = .ok (.if_icmp .eq 12, 3) := by decide +kernel
theorem dX3_pillar_49 : decode cX3_pillar 49 = .ok (.aload_n 0, 1) := by decide +kernel
theorem dX3_pillar_50 : decode cX3_pillar 50 = .ok (.iload 4, 2) := by decide +kernel
theorem dX3_pillar_52 : decode cX3_pillar 52 = .ok (.invokevirtual 69, 3) := by decide +kernel
theorem dX3_pillar_55 : decode cX3_pillar 55 = .ok (.ifCond .eq 7, 3) := by decide +kernel
theorem dX3_pillar_58 : decode cX3_pillar 58 = .ok (.iconst 1, 1) := by decide +kernel
theorem dX3_pillar_59 : decode cX3_pillar 59 = .ok (.goto 4, 3) := by decide +kernel
theorem dX3_pillar_62 : decode cX3_pillar 62 = .ok (.iconst 0, 1) := by decide +kernel
theorem dX3_pillar_63 : decode cX3_pillar 63 = .ok (.istore 5, 2) := by decide +kernel
theorem dX3_pillar_65 : decode cX3_pillar 65 = .ok (.aload_n 0, 1) := by decide +kernel
theorem dX3_pillar_66 : decode cX3_pillar 66 = .ok (.iload_n 3, 1) := by decide +kernel
theorem dX3_pillar_67 : decode cX3_pillar 67 = .ok (.ifCond .ne 7, 3) := by decide +kernel
theorem dX3_pillar_70 : decode cX3_pillar 70 = .ok (.iconst 1, 1) := by decide +kernel
theorem dX3_pillar_71 : decode cX3_pillar 71 = .ok (.goto 13, 3) := by decide +kernel
theorem dX3_pillar_74 : decode cX3_pillar 74 = .ok (.iload 5, 2) := by decide +kernel
theorem dX3_pillar_76 : decode cX3_pillar 76 = .ok (.ifCond .eq 7, 3) := by decide +kernel
theorem dX3_pillar_79 : decode cX3_pillar 79 = .ok (.iconst 2, 1) := by decide +kernel
theorem dX3_pillar_80 : decode cX3_pillar 80 = .ok (.goto 4, 3) := by decide +kernel
theorem dX3_pillar_83 : decode cX3_pillar 83 = .ok (.iconst 0, 1) := by decide +kernel
theorem dX3_pillar_84 : decode cX3_pillar 84 = .ok (.invokevirtual 94, 3) := by decide +kernel
theorem dX3_pillar_87 : decode cX3_pillar 87 = .ok (.ifCond .ne 5, 3) := by decide +kernel
theorem dX3_pillar_90 : decode cX3_pillar 90 = .ok (.iconst 0, 1) := by decide +kernel
theorem dX3_pillar_91 : decode cX3_pillar 91 = .ok (.ireturn, 1) := by decide +kernel
theorem dX3_pillar_92 : decode cX3_pillar 92 = .ok (.aload_n 0, 1) := by decide +kernel
theorem dX3_pillar_93 : decode cX3_pillar 93 = .ok (.getfield 7, 3) := by decide +kernel
theorem dX3_pillar_96 : decode cX3_pillar 96 = .ok (.aload_n 0, 1) := by decide +kernel
theorem dX3_pillar_97 : decode cX3_pillar 97 = .ok (.getfield 49, 3) := by decide +kernel
theorem dX3_pillar_100 : decode cX3_pillar 100 = .ok (.iload_n 1, 1) := by decide +kernel
theorem dX3_pillar_101 : decode cX3_pillar 101 = .ok (.iastore, 1) := by decide +kernel
theorem dX3_pillar_102 : decode cX3_pillar 102 = .ok (.aload_n 0, 1) := by decide +kernel
theorem dX3_pillar_103 : decode cX3_pillar 103 = .ok (.getfield 13, 3) := by decide +kernel
theorem dX3_pillar_106 : decode cX3_pillar 106 = .ok (.aload_n 0, 1) := by decide +kernel
theorem dX3_pillar_107 : decode cX3_pillar 107 = .ok (.getfield 49, 3) := by decide +kernel
theorem dX3_pillar_110 : decode cX3_pillar 110 = .ok (.iload_n 2, 1) := by decide +kernel
theorem dX3_pillar_111 : decode cX3_pillar 111 = .ok (.iastore, 1) := by decide +kernel
theorem dX3_pillar_112 : decode cX3_pillar 112 = .ok (.aload_n 0, 1) := by decide +kernel
theorem dX3_pillar_113 : decode cX3_pillar 113 = .ok (.dup, 1) := by decide +kernel
theorem dX3_pillar_114 : decode cX3_pillar 114 = .ok (.getfield 49, 3) := by decide +kernel
theorem dX3_pillar_117 : decode cX3_pillar 117 = .ok (.iconst 1, 1) := by decide +kernel
theorem dX3_pillar_118 : decode cX3_pillar 118 = .ok (.iadd, 1) := by decide +kernel
theorem dX3_pillar_119 : decode cX3_pillar 119 = .ok (.putfield 49, 3) := by decide +kernel
theorem dX3_pillar_122 : decode cX3_pillar 122 = .ok (.aload_n 0, 1) := by decide +kernel
theorem dX3_pillar_123 : decode cX3_pillar 123 = .ok (.invokevirtual 39, 3) := by decide +kernel
theorem dX3_pillar_126 : decode cX3_pillar 126 = .ok (.aload_n 0, 1) := by decide +kernel
theorem dX3_pillar_127 : decode cX3_pillar 127 = .ok (.getfield 49, 3) := by decide +kernel
theorem dX3_pillar_130 : decode cX3_pillar 130 = .ok (.iconst 1, 1) := by decide +kernel
theorem dX3_pillar_131 : decode cX3_pillar 131 = .ok (.isub, 1) := by decide +kernel
theorem dX3_pillar_132 : decode cX3_pillar 132 = .ok (.ireturn, 1) := by decide +kernel
theorem dX3_base_0 : decode cX3_base 0 = .ok (.aload_n 0, 1) := by decide +kernel
theorem dX3_base_1 : decode cX3_base 1 = .ok (.iload_n 1, 1) := by decide +kernel
theorem dX3_base_2 : decode cX3_base 2 = .ok (.iload_n 2, 1) := by decide +kernel
theorem dX3_base_3 : decode cX3_base 3 = .ok (.invokevirtual 65, 3) := by decide +kernel
theorem dX3_base_6 : decode cX3_base 6 = .ok (.istore_n 3, 1) := by decide +kernel
theorem dX3_base_7 : decode cX3_base 7 = .ok (.aload_n 0, 1) := by decide +kernel
theorem dX3_base_8 : decode cX3_base 8 = .ok (.iload_n 3, 1) := by decide +kernel
theorem dX3_base_9 : decode cX3_base 9 = .ok (.ifCond .ne 7, 3) := by decide +kernel
theorem dX3_base_12 : decode cX3_base 12 = .ok (.iconst 1, 1) := by decide +kernel
theorem dX3_base_13 : decode cX3_base 13 = .ok (.goto 20, 3) := by decide +kernel
theorem dX3_base_16 : decode cX3_base 16 = .ok (.aload_n 0, 1) := by decide +kernel
theorem dX3_base_17 : decode cX3_base 17 = .ok (.iload_n 1, 1) := by decide +kernel
theorem dX3_base_18 : decode cX3_base 18 = .ok (.iload_n 2, 1) := by decide +kernel
theorem dX3_base_19 : decode cX3_base 19 = .ok (.invokestatic 52, 3) := by decide +kernel
theorem dX3_base_22 : decode cX3_base 22 = .ok (.invokevirtual 69, 3) := by decide +kernel
theorem dX3_base_25 : decode cX3_base 25 = .ok (.ifCond .eq 7, 3) := by decide +kernel
theorem dX3_base_28 : decode cX3_base 28 = .ok (.iconst 2, 1) := by decide +kernel
theorem dX3_base_29 : decode cX3_base 29 = .ok (.goto 4, 3) := by decide +kernel
theorem dX3_base_32 : decode cX3_base 32 = .ok (.iconst 0, 1) := by decide +kernel
theorem dX3_base_33 : decode cX3_base 33 = .ok (.invokevirtual 94, 3) := by decide +kernel
theorem dX3_base_36 : decode cX3_base 36 = .ok (.ifCond .eq 34, 3) := by decide +kernel
theorem dX3_base_39 : decode cX3_base 39 = .ok (.aload_n 0, 1) := by decide +kernel
theorem dX3_base_40 : decode cX3_base 40 = .ok (.iload_n 1, 1) := by decide +kernel
theorem dX3_base_41 : decode cX3_base 41 = .ok (.iload_n 2, 1) := by decide +kernel
theorem dX3_base_42 : decode cX3_base 42 = .ok (.invokestatic 52, 3) := by decide +kernel
theorem dX3_base_45 : decode cX3_base 45 = .ok (.putfield 79, 3) := by decide +kernel
theorem dX3_base_48 : decode cX3_base 48 = .ok (.aload_n 0, 1) := by decide +kernel
theorem dX3_base_49 : decode cX3_base 49 = .ok (.aload_n 0, 1) := by decide +kernel
theorem dX3_base_50 : decode cX3_base 50 = .ok (.getfield 79, 3) := by decide +kernel
theorem dX3_base_53 : decode cX3_base 53 = .ok (.putfield 85, 3) := by decide +kernel
theorem dX3_base_56 : decode cX3_base 56 = .ok (.aload_n 0, 1) := by decide +kernel
theorem dX3_base_57 : decode cX3_base 57 = .ok (.iconst 0, 1) := by decide +kernel
theorem dX3_base_58 : decode cX3_base 58 = .ok (.putfield 88, 3) := by decide +kernel
theorem dX3_base_61 : decode cX3_base 61 = .ok (.aload_n 0, 1) := by decide +kernel
theorem dX3_base_62 : decode cX3_base 62 = .ok (.iconst 0, 1) := by decide +kernel
theorem dX3_base_63 : decode cX3_base 63 = .ok (.putfield 91, 3) := by decide +kernel
theorem dX3_base_66 : decode cX3_base 66 = .ok (.aload_n 0, 1) := by decide +kernel
theorem dX3_base_67 : decode cX3_base 67 = .ok (.invokevirtual 39, 3) := by decide +kernel
theorem dX3_base_70 : decode cX3_base 70 = .ok (.return_, 1) := by decide +kernel
theorem dX3_isAble_0 : decode cX3_isAble 0 = .ok (.iload_n 1, 1) := by decide +kernel
theorem dX3_isAble_1 : decode cX3_isAble 1 = .ok (.iconst (-1), 1) := by decide +kernel
theorem dX3_isAble_2 : decode cX3_isAble 2 = .ok (.if_icmp .eq 30, 3) := by decide +kernel
theorem dX3_isAble_5 : decode cX3_isAble 5 = .ok (.aload_n 0, 1) := by decide +kernel
theorem dX3_isAble_6 : decode cX3_isAble 6 = .ok (.getfield 16, 3) := by decide +kernel
theorem dX3_isAble_9 : decode cX3_isAble 9 = .ok (.iload_n 1, 1) := by decide +kernel
theorem dX3_isAble_10 : decode cX3_isAble 10 = .ok (.iaload, 1) := by decide +kernel
theorem dX3_isAble_11 : decode cX3_isAble 11 = .ok (.iconst (-1), 1) := by decide +kernel
theorem dX3_isAble_12 : decode cX3_isAble 12 = .ok (.if_icmp .eq 20, 3) := by decide +kernel
theorem dX3_isAble_15 : decode cX3_isAble 15 = .ok (.aload_n 0, 1) := by decide +kernel
theorem dX3_isAble_16 : decode cX3_isAble 16 = .ok (.getfield 16, 3) := by decide +kernel
theorem dX3_isAble_19 : decode cX3_isAble 19 = .ok (.iload_n 1, 1) := by decide +kernel
theorem dX3_isAble_20 : decode cX3_isAble 20 = .ok (.iaload, 1) := by decide +kernel
theorem dX3_isAble_21 : decode cX3_isAble 21 = .ok (.aload_n 0, 1) := by decide +kernel
theorem dX3_isAble_22 : decode cX3_isAble 22 = .ok (.getfield 36, 3) := by decide +kernel
theorem dX3_isAble_25 : decode cX3_isAble 25 = .ok (.if_icmp .gt 7, 3) := by decide +kernel
theorem dX3_isAble_28 : decode cX3_isAble 28 = .ok (.iconst 1, 1) := by decide +kernel
theorem dX3_isAble_29 : decode cX3_isAble 29 = .ok (.goto 4, 3) := by decide +kernel
theorem dX3_isAble_32 : decode cX3_isAble 32 = .ok (.iconst 0, 1) := by decide +kernel
theorem dX3_isAble_33 : decode cX3_isAble 33 = .ok (.ireturn, 1) := by decide +kernel
theorem dX3_step_0 : decode cX3_step 0 = .ok (.iload_n 1, 1) := by decide +kernel
theorem dX3_step_1 : decode cX3_step 1 = .ok (.iconst 0, 1) := by decide +kernel
theorem dX3_step_2 : decode cX3_step 2 = .ok (.iconst 3, 1) := by decide +kernel
theorem dX3_step_3 : decode cX3_step 3 = .ok (.invokestatic 45, 3) := by decide +kernel
theorem dX3_step_6 : decode cX3_step 6 = .ok (.istore_n 2, 1) := by decide +kernel
theorem dX3_step_7 : decode cX3_step 7 = .ok (.iload_n 2, 1) := by decide +kernel
theorem dX3_step_8 : decode cX3_step 8 = .ok (.ifCond .eq 15, 3) := by decide +kernel
theorem dX3_step_11 : decode cX3_step 11 = .ok (.aload_n 0, 1) := by decide +kernel
theorem dX3_step_12 : decode cX3_step 12 = .ok (.aload_n 0, 1) := by decide +kernel
theorem dX3_step_13 : decode cX3_step 13 = .ok (.invokevirtual 97, 3) := by decide +kernel
theorem dX3_step_16 : decode cX3_step 16 = .ok (.iload_n 1, 1) := by decide +kernel
theorem dX3_step_17 : decode cX3_step 17 = .ok (.invokevirtual 82, 3) := by decide +kernel
theorem dX3_step_20 : decode cX3_step 20 = .ok (.goto 4, 3) := by decide +kernel
theorem dX3_step_23 : decode cX3_step 23 = .ok (.iconst (-1), 1) := by decide +kernel
theorem dX3_step_24 : decode cX3_step 24 = .ok (.istore_n 3, 1) := by decide +kernel
theorem dX3_step_25 : decode cX3_step 25 = .ok (.aload_n 0, 1) := by decide +kernel
theorem dX3_step_26 : decode cX3_step 26 = .ok (.iload_n 2, 1) := by decide +kernel
theorem dX3_step_27 : decode cX3_step 27 = .ok (.ifCond .ne 7, 3) := by decide +kernel
theorem dX3_step_30 : decode cX3_step 30 = .ok (.iconst 1, 1) := by decide +kernel
theorem dX3_step_31 : decode cX3_step 31 = .ok (.goto 16, 3) := by decide +kernel
theorem dX3_step_34 : decode cX3_step 34 = .ok (.aload_n 0, 1) := by decide +kernel
theorem dX3_step_35 : decode cX3_step 35 = .ok (.iload_n 3, 1) := by decide +kernel
theorem dX3_step_36 : decode cX3_step 36 = .ok (.invokevirtual 101, 3) := by decide +kernel
theorem dX3_step_39 : decode cX3_step 39 = .ok (.ifCond .eq 7, 3) := by decide +kernel
theorem dX3_step_42 : decode cX3_step 42 = .ok (.iconst 0, 1) := by decide +kernel
theorem dX3_step_43 : decode cX3_step 43 = .ok (.goto 4, 3) := by decide +kernel
theorem dX3_step_46 : decode cX3_step 46 = .ok (.iconst 2, 1) := by decide +kernel
theorem dX3_step_47 : decode cX3_step 47 = .ok (.invokevirtual 94, 3) := by decide +kernel
theorem dX3_step_50 : decode cX3_step 50 = .ok (.ifCond .ne 5, 3) := by decide +kernel
theorem dX3_step_53 : decode cX3_step 53 = .ok (.iconst 0, 1) := by decide +kernel
theorem dX3_step_54 : decode cX3_step 54 = .ok (.ireturn, 1) := by decide +kernel
theorem dX3_step_55 : decode cX3_step 55 = .ok (.aload_n 0, 1) := by decide +kernel
theorem dX3_step_56 : decode cX3_step 56 = .ok (.iload_n 3, 1) := by decide +kernel
theorem dX3_step_57 : decode cX3_step 57 = .ok (.invokevirtual 104, 3) := by decide +kernel
theorem dX3_step_60 : decode cX3_step 60 = .ok (.aload_n 0, 1) := by decide +kernel
theorem dX3_step_61 : decode cX3_step 61 = .ok (.getfield 16, 3) := by decide +kernel
theorem dX3_step_64 : decode cX3_step 64 = .ok (.iload_n 3, 1) := by decide +kernel
theorem dX3_step_65 : decode cX3_step 65 = .ok (.iaload, 1) := by decide +kernel
theorem dX3_step_66 : decode cX3_step 66 = .ok (.ireturn, 1) := by decide +kernel
theorem dX3_sought_0 : decode cX3_sought 0 = .ok (.iconst 0, 1) := by decide +kernel
theorem dX3_sought_1 : decode cX3_sought 1 = .ok (.istore_n 2, 1) := by decide +kernel
theorem dX3_sought_2 : decode cX3_sought 2 = .ok (.iload_n 2, 1) := by decide +kernel
theorem dX3_sought_3 : decode cX3_sought 3 = .ok (.sipush 16807, 3) := by decide +kernel
theorem dX3_sought_6 : decode cX3_sought 6 = .ok (.if_icmp .ge 16, 3) := by decide +kernel
theorem dX3_sought_9 : decode cX3_sought 9 = .ok (.aload_n 0, 1) := by decide +kernel
theorem dX3_sought_10 : decode cX3_sought 10 = .ok (.getfield 22, 3) := by decide +kernel
theorem dX3_sought_13 : decode cX3_sought 13 = .ok (.iload_n 2, 1) := by decide +kernel
theorem dX3_sought_14 : decode cX3_sought 14 = .ok (.iconst (-1), 1) := by decide +kernel
theorem dX3_sought_15 : decode cX3_sought 15 = .ok (.iastore, 1) := by decide +kernel
theorem dX3_sought_16 : decode cX3_sought 16 = .ok (.iinc 2 1, 3) := by decide +kernel
theorem dX3_sought_19 : decode cX3_sought 19 = .ok (.goto (-17), 3) := by decide +kernel
theorem dX3_sought_22 : decode cX3_sought 22 = .ok (.iconst 1, 1) := by decide +kernel
theorem dX3_sought_23 : decode cX3_sought 23 = .ok (.istore_n 2, 1) := by decide +kernel
theorem dX3_sought_24 : decode cX3_sought 24 = .ok (.aload_n 0, 1) := by decide +kernel
theorem dX3_sought_25 : decode cX3_sought 25 = .ok (.getfield 19, 3) := by decide +kernel
theorem dX3_sought_28 : decode cX3_sought 28 = .ok (.iconst 0, 1) := by decide +kernel
theorem dX3_sought_29 : decode cX3_sought 29 = .ok (.aload_n 0, 1) := by decide +kernel
theorem dX3_sought_30 : decode cX3_sought 30 = .ok (.invokevirtual 97, 3) := by decide +kernel
theorem dX3_sought_33 : decode cX3_sought 33 = .ok (.iastore, 1) := by decide +kernel
theorem dX3_sought_34 : decode cX3_sought 34 = .ok (.aload_n 0, 1) := by decide +kernel
theorem dX3_sought_35 : decode cX3_sought 35 = .ok (.getfield 22, 3) := by decide +kernel
theorem dX3_sought_38 : decode cX3_sought 38 = .ok (.aload_n 0, 1) := by decide +kernel
theorem dX3_sought_39 : decode cX3_sought 39 = .ok (.getfield 19, 3) := by decide +kernel
theorem dX3_sought_42 : decode cX3_sought 42 = .ok (.iconst 0, 1) := by decide +kernel
theorem dX3_sought_43 : decode cX3_sought 43 = .ok (.iaload, 1) := by decide +kernel
theorem dX3_sought_44 : decode cX3_sought 44 = .ok (.aload_n 0, 1) := by decide +kernel
theorem dX3_sought_45 : decode cX3_sought 45 = .ok (.getfield 19, 3) := by decide +kernel
theorem dX3_sought_48 : decode cX3_sought 48 = .ok (.iconst 0, 1) := by decide +kernel
theorem dX3_sought_49 : decode cX3_sought 49 = .ok (.iaload, 1) := by decide +kernel
theorem dX3_sought_50 : decode cX3_sought 50 = .ok (.iastore, 1) := by decide +kernel
theorem dX3_sought_51 : decode cX3_sought 51 = .ok (.iconst 0, 1) := by decide +kernel
theorem dX3_sought_52 : decode cX3_sought 52 = .ok (.istore_n 3, 1) := by decide +kernel
theorem dX3_sought_53 : decode cX3_sought 53 = .ok (.iload_n 3, 1) := by decide +kernel
theorem dX3_sought_54 : decode cX3_sought 54 = .ok (.iload_n 2, 1) := by decide +kernel
theorem dX3_sought_55 : decode cX3_sought 55 = .ok (.if_icmp .ge 103, 3) := by decide +kernel
theorem dX3_sought_58 : decode cX3_sought 58 = .ok (.aload_n 0, 1) := by decide +kernel
theorem dX3_sought_59 : decode cX3_sought 59 = .ok (.getfield 19, 3) := by decide +kernel
theorem dX3_sought_62 : decode cX3_sought 62 = .ok (.iload_n 3, 1) := by decide +kernel
theorem dX3_sought_63 : decode cX3_sought 63 = .ok (.iaload, 1) := by decide +kernel
theorem dX3_sought_64 : decode cX3_sought 64 = .ok (.sipush 343, 3) := by decide +kernel
theorem dX3_sought_67 : decode cX3_sought 67 = .ok (.idiv, 1) := by decide +kernel
theorem dX3_sought_68 : decode cX3_sought 68 = .ok (.iload_n 1, 1) := by decide +kernel
theorem dX3_sought_69 : decode cX3_sought 69 = .ok (.if_icmp .ne 10, 3) := by decide +kernel
theorem dX3_sought_72 : decode cX3_sought 72 = .ok (.aload_n 0, 1) := by decide +kernel
theorem dX3_sought_73 : decode cX3_sought 73 = .ok (.getfield 19, 3) := by decide +kernel
theorem dX3_sought_76 : decode cX3_sought 76 = .ok (.iload_n 3, 1) := by decide +kernel
theorem dX3_sought_77 : decode cX3_sought 77 = .ok (.iaload, 1) := by decide +kernel
theorem dX3_sought_78 : decode cX3_sought 78 = .ok (.ireturn, 1) := by decide +kernel
theorem dX3_sought_79 : decode cX3_sought 79 = .ok (.iconst 0, 1) := by decide +kernel
theorem dX3_sought_80 : decode cX3_sought 80 = .ok (.istore 4, 2) := by decide +kernel
theorem dX3_sought_82 : decode cX3_sought 82 = .ok (.iload 4, 2) := by decide +kernel
theorem dX3_sought_84 : decode cX3_sought 84 = .ok (.iconst 4, 1) := by decide +kernel
theorem dX3_sought_85 : decode cX3_sought 85 = .ok (.if_icmp .ge 67, 3) := by decide +kernel
theorem dX3_sought_88 : decode cX3_sought 88 = .ok (.aload_n 0, 1) := by decide +kernel
theorem dX3_sought_89 : decode cX3_sought 89 = .ok (.aload_n 0, 1) := by decide +kernel
theorem dX3_sought_90 : decode cX3_sought 90 = .ok (.getfield 19, 3) := by decide +kernel
theorem dX3_sought_93 : decode cX3_sought 93 = .ok (.iload_n 3, 1) := by decide +kernel
theorem dX3_sought_94 : decode cX3_sought 94 = .ok (.iaload, 1) := by decide +kernel
theorem dX3_sought_95 : decode cX3_sought 95 = .ok (.iload 4, 2) := by decide +kernel
theorem dX3_sought_97 : decode cX3_sought 97 = .ok (.invokevirtual 82, 3) := by decide +kernel
theorem dX3_sought_100 : decode cX3_sought 100 = .ok (.istore 5, 2) := by decide +kernel
theorem dX3_sought_102 : decode cX3_sought 102 = .ok (.aload_n 0, 1) := by decide +kernel
theorem dX3_sought_103 : decode cX3_sought 103 = .ok (.iload 5, 2) := by decide +kernel
theorem dX3_sought_105 : decode cX3_sought 105 = .ok (.invokevirtual 101, 3) := by decide +kernel
theorem dX3_sought_108 : decode cX3_sought 108 = .ok (.ifCond .eq 38, 3) := by decide +kernel
theorem dX3_sought_111 : decode cX3_sought 111 = .ok (.aload_n 0, 1) := by decide +kernel
theorem dX3_sought_112 : decode cX3_sought 112 = .ok (.getfield 22, 3) := by decide +kernel
theorem dX3_sought_115 : decode cX3_sought 115 = .ok (.iload 5, 2) := by decide +kernel
theorem dX3_sought_117 : decode cX3_sought 117 = .ok (.iaload, 1) := by decide +kernel
theorem dX3_sought_118 : decode cX3_sought 118 = .ok (.iconst (-1), 1) := by decide +kernel
theorem dX3_sought_119 : decode cX3_sought 119 = .ok (.if_icmp .ne 27, 3) := by decide +kernel
theorem dX3_sought_122 : decode cX3_sought 122 = .ok (.aload_n 0, 1) := by decide +kernel
theorem dX3_sought_123 : decode cX3_sought 123 = .ok (.getfield 22, 3) := by decide +kernel
theorem dX3_sought_126 : decode cX3_sought 126 = .ok (.iload 5, 2) := by decide +kernel
theorem dX3_sought_128 : decode cX3_sought 128 = .ok (.aload_n 0, 1) := by decide +kernel
theorem dX3_sought_129 : decode cX3_sought 129 = .ok (.getfield 19, 3) := by decide +kernel
theorem dX3_sought_132 : decode cX3_sought 132 = .ok (.iload_n 3, 1) := by decide +kernel
theorem dX3_sought_133 : decode cX3_sought 133 = .ok (.iaload, 1) := by decide +kernel
theorem dX3_sought_134 : decode cX3_sought 134 = .ok (.iastore, 1) := by decide +kernel
theorem dX3_sought_135 : decode cX3_sought 135 = .ok (.aload_n 0, 1) := by decide +kernel
theorem dX3_sought_136 : decode cX3_sought 136 = .ok (.getfield 19, 3) := by decide +kernel
theorem dX3_sought_139 : decode cX3_sought 139 = .ok (.iload_n 2, 1) := by decide +kernel
theorem dX3_sought_140 : decode cX3_sought 140 = .ok (.iload 5, 2) := by decide +kernel
theorem dX3_sought_142 : decode cX3_sought 142 = .ok (.iastore, 1) := by decide +kernel
theorem dX3_sought_143 : decode cX3_sought 143 = .ok (.iinc 2 1, 3) := by decide +kernel
theorem dX3_sought_146 : decode cX3_sought 146 = .ok (.iinc 4 1, 3) := by decide +kernel
theorem dX3_sought_149 : decode cX3_sought 149 = .ok (.goto (-67), 3) := by decide +kernel
theorem dX3_sought_152 : decode cX3_sought 152 = .ok (.iinc 3 1, 3) := by decide +kernel
theorem dX3_sought_155 : decode cX3_sought 155 = .ok (.goto (-102), 3) := by decide +kernel
theorem dX3_sought_158 : decode cX3_sought 158 = .ok (.iconst (-1), 1) := by decide +kernel
theorem dX3_sought_159 : decode cX3_sought 159 = .ok (.ireturn, 1) := by decide +kernel
theorem dX3_go_0 : decode cX3_go 0 = .ok (.aload_n 0, 1) := by decide +kernel
theorem dX3_go_1 : decode cX3_go 1 = .ok (.iload_n 1, 1) := by decide +kernel
theorem dX3_go_2 : decode cX3_go 2 = .ok (.iload_n 2, 1) := by decide +kernel
theorem dX3_go_3 : decode cX3_go 3 = .ok (.invokevirtual 65, 3) := by decide +kernel
theorem dX3_go_6 : decode cX3_go 6 = .ok (.istore_n 3, 1) := by decide +kernel
theorem dX3_go_7 : decode cX3_go 7 = .ok (.iload_n 3, 1) := by decide +kernel
theorem dX3_go_8 : decode cX3_go 8 = .ok (.ifCond .eq 15, 3) := by decide +kernel
theorem dX3_go_11 : decode cX3_go 11 = .ok (.aload_n 0, 1) := by decide +kernel
theorem dX3_go_12 : decode cX3_go 12 = .ok (.iload_n 1, 1) := by decide +kernel
theorem dX3_go_13 : decode cX3_go 13 = .ok (.iload_n 2, 1) := by decide +kernel
theorem dX3_go_14 : decode cX3_go 14 = .ok (.invokestatic 52, 3) := by decide +kernel
theorem dX3_go_17 : decode cX3_go 17 = .ok (.invokevirtual 108, 3) := by decide +kernel
theorem dX3_go_20 : decode cX3_go 20 = .ok (.goto 4, 3) := by decide +kernel
theorem dX3_go_23 : decode cX3_go 23 = .ok (.iconst (-1), 1) := by decide +kernel
theorem dX3_go_24 : decode cX3_go 24 = .ok (.istore 4, 2) := by decide +kernel
theorem dX3_go_26 : decode cX3_go 26 = .ok (.aload_n 0, 1) := by decide +kernel
theorem dX3_go_27 : decode cX3_go 27 = .ok (.iload_n 3, 1) := by decide +kernel
theorem dX3_go_28 : decode cX3_go 28 = .ok (.ifCond .ne 7, 3) := by decide +kernel
theorem dX3_go_31 : decode cX3_go 31 = .ok (.iconst 1, 1) := by decide +kernel
theorem dX3_go_32 : decode cX3_go 32 = .ok (.goto 14, 3) := by decide +kernel
theorem dX3_go_35 : decode cX3_go 35 = .ok (.iload 4, 2) := by decide +kernel
theorem dX3_go_37 : decode cX3_go 37 = .ok (.iconst (-1), 1) := by decide +kernel
theorem dX3_go_38 : decode cX3_go 38 = .ok (.if_icmp .ne 7, 3) := by decide +kernel
theorem dX3_go_41 : decode cX3_go 41 = .ok (.iconst 2, 1) := by decide +kernel
theorem dX3_go_42 : decode cX3_go 42 = .ok (.goto 4, 3) := by decide +kernel
theorem dX3_go_45 : decode cX3_go 45 = .ok (.iconst 0, 1) := by decide +kernel
theorem dX3_go_46 : decode cX3_go 46 = .ok (.invokevirtual 94, 3) := by decide +kernel
theorem dX3_go_49 : decode cX3_go 49 = .ok (.ifCond .ne 5, 3) := by decide +kernel
theorem dX3_go_52 : decode cX3_go 52 = .ok (.iconst 0, 1) := by decide +kernel
theorem dX3_go_53 : decode cX3_go 53 = .ok (.ireturn, 1) := by decide +kernel
theorem dX3_go_54 : decode cX3_go 54 = .ok (.iconst 0, 1) := by decide +kernel
theorem dX3_go_55 : decode cX3_go 55 = .ok (.istore 5, 2) := by decide +kernel
theorem dX3_go_57 : decode cX3_go 57 = .ok (.iload 4, 2) := by decide +kernel
theorem dX3_go_59 : decode cX3_go 59 = .ok (.istore 6, 2) := by decide +kernel
theorem dX3_go_61 : decode cX3_go 61 = .ok (.aload_n 0, 1) := by decide +kernel
theorem dX3_go_62 : decode cX3_go 62 = .ok (.getfield 22, 3) := by decide +kernel
theorem dX3_go_65 : decode cX3_go 65 = .ok (.iload 6, 2) := by decide +kernel
theorem dX3_go_67 : decode cX3_go 67 = .ok (.iaload, 1) := by decide +kernel
theorem dX3_go_68 : decode cX3_go 68 = .ok (.iload 6, 2) := by decide +kernel
theorem dX3_go_70 : decode cX3_go 70 = .ok (.if_icmp .eq 18, 3) := by decide +kernel
theorem dX3_go_73 : decode cX3_go 73 = .ok (.iinc 5 1, 3) := by decide +kernel
theorem dX3_go_76 : decode cX3_go 76 = .ok (.aload_n 0, 1) := by decide +kernel
theorem dX3_go_77 : decode cX3_go 77 = .ok (.getfield 22, 3) := by decide +kernel
theorem dX3_go_80 : decode cX3_go 80 = .ok (.iload 6, 2) := by decide +kernel
theorem dX3_go_82 : decode cX3_go 82 = .ok (.iaload, 1) := by decide +kernel
theorem dX3_go_83 : decode cX3_go 83 = .ok (.istore 6, 2) := by decide +kernel
theorem dX3_go_85 : decode cX3_go 85 = .ok (.goto (-24), 3) := by decide +kernel
theorem dX3_go_88 : decode cX3_go 88 = .ok (.aload_n 0, 1) := by decide +kernel
theorem dX3_go_89 : decode cX3_go 89 = .ok (.iload 4, 2) := by decide +kernel
theorem dX3_go_91 : decode cX3_go 91 = .ok (.sipush 343, 3) := by decide +kernel
theorem dX3_go_94 : decode cX3_go 94 = .ok (.idiv, 1) := by decide +kernel
theorem dX3_go_95 : decode cX3_go 95 = .ok (.putfield 85, 3) := by decide +kernel
theorem dX3_go_98 : decode cX3_go 98 = .ok (.aload_n 0, 1) := by decide +kernel
theorem dX3_go_99 : decode cX3_go 99 = .ok (.iload 4, 2) := by decide +kernel
theorem dX3_go_101 : decode cX3_go 101 = .ok (.sipush 343, 3) := by decide +kernel
theorem dX3_go_104 : decode cX3_go 104 = .ok (.irem, 1) := by decide +kernel
theorem dX3_go_105 : decode cX3_go 105 = .ok (.putfield 88, 3) := by decide +kernel
theorem dX3_go_108 : decode cX3_go 108 = .ok (.aload_n 0, 1) := by decide +kernel
theorem dX3_go_109 : decode cX3_go 109 = .ok (.dup, 1) := by decide +kernel
theorem dX3_go_110 : decode cX3_go 110 = .ok (.getfield 91, 3) := by decide +kernel
theorem dX3_go_113 : decode cX3_go 113 = .ok (.iload 5, 2) := by decide +kernel
theorem dX3_go_115 : decode cX3_go 115 = .ok (.iadd, 1) := by decide +kernel
theorem dX3_go_116 : decode cX3_go 116 = .ok (.putfield 91, 3) := by decide +kernel
theorem dX3_go_119 : decode cX3_go 119 = .ok (.iload 5, 2) := by decide +kernel
theorem dX3_go_121 : decode cX3_go 121 = .ok (.ireturn, 1) := by decide +kernel
theorem dX3_along_0 : decode cX3_along 0 = .ok (.iconst 0, 1) := by decide +kernel
theorem dX3_along_1 : decode cX3_along 1 = .ok (.istore_n 2, 1) := by decide +kernel
theorem dX3_along_2 : decode cX3_along 2 = .ok (.iload_n 2, 1) := by decide +kernel
theorem dX3_along_3 : decode cX3_along 3 = .ok (.iconst 4, 1) := by decide +kernel
theorem dX3_along_4 : decode cX3_along 4 = .ok (.if_icmp .ge 49, 3) := by decide +kernel
theorem dX3_along_7 : decode cX3_along 7 = .ok (.aload_n 0, 1) := by decide +kernel
theorem dX3_along_8 : decode cX3_along 8 = .ok (.getfield 16, 3) := by decide +kernel
theorem dX3_along_11 : decode cX3_along 11 = .ok (.iload_n 1, 1) := by decide +kernel
theorem dX3_along_12 : decode cX3_along 12 = .ok (.iaload, 1) := by decide +kernel
theorem dX3_along_13 : decode cX3_along 13 = .ok (.ifCond .le 40, 3) := by decide +kernel
theorem dX3_along_16 : decode cX3_along 16 = .ok (.aload_n 0, 1) := by decide +kernel
theorem dX3_along_17 : decode cX3_along 17 = .ok (.iload_n 1, 1) := by decide +kernel
theorem dX3_along_18 : decode cX3_along 18 = .ok (.iload_n 2, 1) := by decide +kernel
theorem dX3_along_19 : decode cX3_along 19 = .ok (.invokevirtual 82, 3) := by decide +kernel
theorem dX3_along_22 : decode cX3_along 22 = .ok (.istore_n 3, 1) := by decide +kernel
theorem dX3_along_23 : decode cX3_along 23 = .ok (.iload_n 3, 1) := by decide +kernel
theorem dX3_along_24 : decode cX3_along 24 = .ok (.iconst (-1), 1) := by decide +kernel
theorem dX3_along_25 : decode cX3_along 25 = .ok (.if_icmp .eq 22, 3) := by decide +kernel
theorem dX3_along_28 : decode cX3_along 28 = .ok (.aload_n 0, 1) := by decide +kernel
theorem dX3_along_29 : decode cX3_along 29 = .ok (.getfield 16, 3) := by decide +kernel
theorem dX3_along_32 : decode cX3_along 32 = .ok (.iload_n 3, 1) := by decide +kernel
theorem dX3_along_33 : decode cX3_along 33 = .ok (.iaload, 1) := by decide +kernel
theorem dX3_along_34 : decode cX3_along 34 = .ok (.aload_n 0, 1) := by decide +kernel
theorem dX3_along_35 : decode cX3_along 35 = .ok (.getfield 16, 3) := by decide +kernel
theorem dX3_along_38 : decode cX3_along 38 = .ok (.iload_n 1, 1) := by decide +kernel
theorem dX3_along_39 : decode cX3_along 39 = .ok (.iaload, 1) := by decide +kernel
theorem dX3_along_40 : decode cX3_along 40 = .ok (.iconst 1, 1) := by decide +kernel
theorem dX3_along_41 : decode cX3_along 41 = .ok (.isub, 1) := by decide +kernel
theorem dX3_along_42 : decode cX3_along 42 = .ok (.if_icmp .ne 5, 3) := by decide +kernel
theorem dX3_along_45 : decode cX3_along 45 = .ok (.iload_n 2, 1) := by decide +kernel
theorem dX3_along_46 : decode cX3_along 46 = .ok (.ireturn, 1) := by decide +kernel
theorem dX3_along_47 : decode cX3_along 47 = .ok (.iinc 2 1, 3) := by decide +kernel
theorem dX3_along_50 : decode cX3_along 50 = .ok (.goto (-48), 3) := by decide +kernel
theorem dX3_along_53 : decode cX3_along 53 = .ok (.iconst (-1), 1) := by decide +kernel
theorem dX3_along_54 : decode cX3_along 54 = .ok (.ireturn, 1) := by decide +kernel
theorem dX3_back_0 : decode cX3_back 0 = .ok (.aload_n 0, 1) := by decide +kernel
theorem dX3_back_1 : decode cX3_back 1 = .ok (.iload_n 1, 1) := by decide +kernel
theorem dX3_back_2 : decode cX3_back 2 = .ok (.iconst 1, 1) := by decide +kernel
theorem dX3_back_3 : decode cX3_back 3 = .ok (.bipush 60, 2) := by decide +kernel
theorem dX3_back_5 : decode cX3_back 5 = .ok (.invokestatic 45, 3) := by decide +kernel
theorem dX3_back_8 : decode cX3_back 8 = .ok (.ifCond .eq 7, 3) := by decide +kernel
theorem dX3_back_11 : decode cX3_back 11 = .ok (.iconst 0, 1) := by decide +kernel
theorem dX3_back_12 : decode cX3_back 12 = .ok (.goto 4, 3) := by decide +kernel
theorem dX3_back_15 : decode cX3_back 15 = .ok (.iconst 1, 1) := by decide +kernel
theorem dX3_back_16 : decode cX3_back 16 = .ok (.invokevirtual 94, 3) := by decide +kernel
theorem dX3_back_19 : decode cX3_back 19 = .ok (.ifCond .ne 5, 3) := by decide +kernel
theorem dX3_back_22 : decode cX3_back 22 = .ok (.iconst 0, 1) := by decide +kernel
theorem dX3_back_23 : decode cX3_back 23 = .ok (.ireturn, 1) := by decide +kernel
theorem dX3_back_24 : decode cX3_back 24 = .ok (.iconst 0, 1) := by decide +kernel
theorem dX3_back_25 : decode cX3_back 25 = .ok (.istore_n 2, 1) := by decide +kernel
theorem dX3_back_26 : decode cX3_back 26 = .ok (.iload_n 2, 1) := by decide +kernel
theorem dX3_back_27 : decode cX3_back 27 = .ok (.iload_n 1, 1) := by decide +kernel
theorem dX3_back_28 : decode cX3_back 28 = .ok (.if_icmp .ge 41, 3) := by decide +kernel
theorem dX3_back_31 : decode cX3_back 31 = .ok (.aload_n 0, 1) := by decide +kernel
theorem dX3_back_32 : decode cX3_back 32 = .ok (.getfield 16, 3) := by decide +kernel
theorem dX3_back_35 : decode cX3_back 35 = .ok (.aload_n 0, 1) := by decide +kernel
theorem dX3_back_36 : decode cX3_back 36 = .ok (.invokevirtual 97, 3) := by decide +kernel
theorem dX3_back_39 : decode cX3_back 39 = .ok (.iaload, 1) := by decide +kernel
theorem dX3_back_40 : decode cX3_back 40 = .ok (.ifCond .le 29, 3) := by decide +kernel
theorem dX3_back_43 : decode cX3_back 43 = .ok (.aload_n 0, 1) := by decide +kernel
theorem dX3_back_44 : decode cX3_back 44 = .ok (.aload_n 0, 1) := by decide +kernel
theorem dX3_back_45 : decode cX3_back 45 = .ok (.aload_n 0, 1) := by decide +kernel
theorem dX3_back_46 : decode cX3_back 46 = .ok (.invokevirtual 97, 3) := by decide +kernel
theorem dX3_back_49 : decode cX3_back 49 = .ok (.aload_n 0, 1) := by decide +kernel
theorem dX3_back_50 : decode cX3_back 50 = .ok (.aload_n 0, 1) := by decide +kernel
theorem dX3_back_51 : decode cX3_back 51 = .ok (.invokevirtual 97, 3) := by decide +kernel
theorem dX3_back_54 : decode cX3_back 54 = .ok (.invokevirtual 112, 3) := by decide +kernel
theorem dX3_back_57 : decode cX3_back 57 = .ok (.invokevirtual 82, 3) := by decide +kernel
theorem dX3_back_60 : decode cX3_back 60 = .ok (.invokevirtual 104, 3) := by decide +kernel
theorem dX3_back_63 : decode cX3_back 63 = .ok (.iinc 2 1, 3) := by decide +kernel
theorem dX3_back_66 : decode cX3_back 66 = .ok (.goto (-40), 3) := by decide +kernel
theorem dX3_back_69 : decode cX3_back 69 = .ok (.iload_n 2, 1) := by decide +kernel
theorem dX3_back_70 : decode cX3_back 70 = .ok (.ireturn, 1) := by decide +kernel
theorem dX3_column_0 : decode cX3_column 0 = .ok (.aload_n 0, 1) := by decide +kernel
theorem dX3_column_1 : decode cX3_column 1 = .ok (.iconst 0, 1) := by decide +kernel
theorem dX3_column_2 : decode cX3_column 2 = .ok (.putfield 42, 3) := by decide +kernel
theorem dX3_column_5 : decode cX3_column 5 = .ok (.aload_n 0, 1) := by decide +kernel
theorem dX3_column_6 : decode cX3_column 6 = .ok (.getfield 85, 3) := by decide +kernel
theorem dX3_column_9 : decode cX3_column 9 = .ok (.bipush 7, 2) := by decide +kernel
theorem dX3_column_11 : decode cX3_column 11 = .ok (.irem, 1) := by decide +kernel
theorem dX3_column_12 : decode cX3_column 12 = .ok (.ireturn, 1) := by decide +kernel
theorem dX3_row_0 : decode cX3_row 0 = .ok (.aload_n 0, 1) := by decide +kernel
theorem dX3_row_1 : decode cX3_row 1 = .ok (.iconst 0, 1) := by decide +kernel
theorem dX3_row_2 : decode cX3_row 2 = .ok (.putfield 42, 3) := by decide +kernel
theorem dX3_row_5 : decode cX3_row 5 = .ok (.aload_n 0, 1) := by decide +kernel
theorem dX3_row_6 : decode cX3_row 6 = .ok (.getfield 85, 3) := by decide +kernel
theorem dX3_row_9 : decode cX3_row 9 = .ok (.bipush 7, 2) := by decide +kernel
theorem dX3_row_11 : decode cX3_row 11 = .ok (.idiv, 1) := by decide +kernel
theorem dX3_row_12 : decode cX3_row 12 = .ok (.ireturn, 1) := by decide +kernel
theorem dX3_letters_0 : decode cX3_letters 0 = .ok (.aload_n 0, 1) := by decide +kernel
theorem dX3_letters_1 : decode cX3_letters 1 = .ok (.iconst 0, 1) := by decide +kernel
theorem dX3_letters_2 : decode cX3_letters 2 = .ok (.putfield 42, 3) := by decide +kernel
theorem dX3_letters_5 : decode cX3_letters 5 = .ok (.aload_n 0, 1) := by decide +kernel
theorem dX3_letters_6 : decode cX3_letters 6 = .ok (.getfield 88, 3) := by decide +kernel
theorem dX3_letters_9 : decode cX3_letters 9 = .ok (.invokestatic 115, 3) := by decide +kernel
theorem dX3_letters_12 : decode cX3_letters 12 = .ok (.ireturn, 1) := by decide +kernel
theorem dX3_letterAt_0 : decode cX3_letterAt 0 = .ok (.aload_n 0, 1) := by decide +kernel
theorem dX3_letterAt_1 : decode cX3_letterAt 1 = .ok (.iload_n 1, 1) := by decide +kernel
theorem dX3_letterAt_2 : decode cX3_letterAt 2 = .ok (.iconst 0, 1) := by decide +kernel
theorem dX3_letterAt_3 : decode cX3_letterAt 3 = .ok (.aload_n 0, 1) := by decide +kernel
theorem dX3_letterAt_4 : decode cX3_letterAt 4 = .ok (.getfield 88, 3) := by decide +kernel
theorem dX3_letterAt_7 : decode cX3_letterAt 7 = .ok (.invokestatic 115, 3) := by decide +kernel
theorem dX3_letterAt_10 : decode cX3_letterAt 10 = .ok (.iconst 1, 1) := by decide +kernel
theorem dX3_letterAt_11 : decode cX3_letterAt 11 = .ok (.isub, 1) := by decide +kernel
theorem dX3_letterAt_12 : decode cX3_letterAt 12 = .ok (.invokestatic 45, 3) := by decide +kernel
theorem dX3_letterAt_15 : decode cX3_letterAt 15 = .ok (.ifCond .eq 7, 3) := by decide +kernel
theorem dX3_letterAt_18 : decode cX3_letterAt 18 = .ok (.iconst 0, 1) := by decide +kernel
theorem dX3_letterAt_19 : decode cX3_letterAt 19 = .ok (.goto 4, 3) := by decide +kernel
theorem dX3_letterAt_22 : decode cX3_letterAt 22 = .ok (.iconst 1, 1) := by decide +kernel
theorem dX3_letterAt_23 : decode cX3_letterAt 23 = .ok (.invokevirtual 94, 3) := by decide +kernel
theorem dX3_letterAt_26 : decode cX3_letterAt 26 = .ok (.ifCond .ne 5, 3) := by decide +kernel
theorem dX3_letterAt_29 : decode cX3_letterAt 29 = .ok (.iconst 0, 1) := by decide +kernel
theorem dX3_letterAt_30 : decode cX3_letterAt 30 = .ok (.ireturn, 1) := by decide +kernel
theorem dX3_letterAt_31 : decode cX3_letterAt 31 = .ok (.aload_n 0, 1) := by decide +kernel
theorem dX3_letterAt_32 : decode cX3_letterAt 32 = .ok (.getfield 88, 3) := by decide +kernel
theorem dX3_letterAt_35 : decode cX3_letterAt 35 = .ok (.istore_n 2, 1) := by decide +kernel
theorem dX3_letterAt_36 : decode cX3_letterAt 36 = .ok (.aload_n 0, 1) := by decide +kernel
theorem dX3_letterAt_37 : decode cX3_letterAt 37 = .ok (.getfield 88, 3) := by decide +kernel
theorem dX3_letterAt_40 : decode cX3_letterAt 40 = .ok (.invokestatic 115, 3) := by decide +kernel
theorem dX3_letterAt_43 : decode cX3_letterAt 43 = .ok (.iconst 1, 1) := by decide +kernel
theorem dX3_letterAt_44 : decode cX3_letterAt 44 = .ok (.isub, 1) := by decide +kernel
theorem dX3_letterAt_45 : decode cX3_letterAt 45 = .ok (.istore_n 3, 1) := by decide +kernel
theorem dX3_letterAt_46 : decode cX3_letterAt 46 = .ok (.iload_n 3, 1) := by decide +kernel
theorem dX3_letterAt_47 : decode cX3_letterAt 47 = .ok (.iload_n 1, 1) := by decide +kernel
theorem dX3_letterAt_48 : decode cX3_letterAt 48 = .ok (.if_icmp .le 14, 3) := by decide +kernel
theorem dX3_letterAt_51 : decode cX3_letterAt 51 = .ok (.iload_n 2, 1) := by decide +kernel
theorem dX3_letterAt_52 : decode cX3_letterAt 52 = .ok (.bipush 7, 2) := by decide +kernel
theorem dX3_letterAt_54 : decode cX3_letterAt 54 = .ok (.idiv, 1) := by decide +kernel
theorem dX3_letterAt_55 : decode cX3_letterAt 55 = .ok (.istore_n 2, 1) := by decide +kernel
theorem dX3_letterAt_56 : decode cX3_letterAt 56 = .ok (.iinc 3 (-1), 3) := by decide +kernel
theorem dX3_letterAt_59 : decode cX3_letterAt 59 = .ok (.goto (-13), 3) := by decide +kernel
theorem dX3_letterAt_62 : decode cX3_letterAt 62 = .ok (.iload_n 2, 1) := by decide +kernel
theorem dX3_letterAt_63 : decode cX3_letterAt 63 = .ok (.bipush 7, 2) := by decide +kernel
theorem dX3_letterAt_65 : decode cX3_letterAt 65 = .ok (.irem, 1) := by decide +kernel
theorem dX3_letterAt_66 : decode cX3_letterAt 66 = .ok (.iconst 1, 1) := by decide +kernel
theorem dX3_letterAt_67 : decode cX3_letterAt 67 = .ok (.isub, 1) := by decide +kernel
theorem dX3_letterAt_68 : decode cX3_letterAt 68 = .ok (.ireturn, 1) := by decide +kernel
theorem dX3_length_0 : decode cX3_length 0 = .ok (.aload_n 0, 1) := by decide +kernel
theorem dX3_length_1 : decode cX3_length 1 = .ok (.iconst 0, 1) := by decide +kernel
theorem dX3_length_2 : decode cX3_length 2 = .ok (.putfield 42, 3) := by decide +kernel
theorem dX3_length_5 : decode cX3_length 5 = .ok (.aload_n 0, 1) := by decide +kernel
theorem dX3_length_6 : decode cX3_length 6 = .ok (.getfield 16, 3) := by decide +kernel
theorem dX3_length_9 : decode cX3_length 9 = .ok (.aload_n 0, 1) := by decide +kernel
theorem dX3_length_10 : decode cX3_length 10 = .ok (.invokevirtual 97, 3) := by decide +kernel
theorem dX3_length_13 : decode cX3_length 13 = .ok (.iaload, 1) := by decide +kernel
theorem dX3_length_14 : decode cX3_length 14 = .ok (.ireturn, 1) := by decide +kernel
theorem dX3_slack_0 : decode cX3_slack 0 = .ok (.aload_n 0, 1) := by decide +kernel
theorem dX3_slack_1 : decode cX3_slack 1 = .ok (.iconst 0, 1) := by decide +kernel
theorem dX3_slack_2 : decode cX3_slack 2 = .ok (.putfield 42, 3) := by decide +kernel
theorem dX3_slack_5 : decode cX3_slack 5 = .ok (.aload_n 0, 1) := by decide +kernel
theorem dX3_slack_6 : decode cX3_slack 6 = .ok (.getfield 36, 3) := by decide +kernel
theorem dX3_slack_9 : decode cX3_slack 9 = .ok (.aload_n 0, 1) := by decide +kernel
theorem dX3_slack_10 : decode cX3_slack 10 = .ok (.getfield 16, 3) := by decide +kernel
theorem dX3_slack_13 : decode cX3_slack 13 = .ok (.aload_n 0, 1) := by decide +kernel
theorem dX3_slack_14 : decode cX3_slack 14 = .ok (.invokevirtual 97, 3) := by decide +kernel
theorem dX3_slack_17 : decode cX3_slack 17 = .ok (.iaload, 1) := by decide +kernel
theorem dX3_slack_18 : decode cX3_slack 18 = .ok (.isub, 1) := by decide +kernel
theorem dX3_slack_19 : decode cX3_slack 19 = .ok (.ireturn, 1) := by decide +kernel
theorem dX3_steps_0 : decode cX3_steps 0 = .ok (.aload_n 0, 1) := by decide +kernel
theorem dX3_steps_1 : decode cX3_steps 1 = .ok (.iconst 0, 1) := by decide +kernel
theorem dX3_steps_2 : decode cX3_steps 2 = .ok (.putfield 42, 3) := by decide +kernel
theorem dX3_steps_5 : decode cX3_steps 5 = .ok (.aload_n 0, 1) := by decide +kernel
theorem dX3_steps_6 : decode cX3_steps 6 = .ok (.getfield 91, 3) := by decide +kernel
theorem dX3_steps_9 : decode cX3_steps 9 = .ok (.ireturn, 1) := by decide +kernel
theorem dX3_lengthByTrying_0 : decode cX3_lengthByTrying 0 = .ok (.aload_n 0, 1) := by decide +kernel
theorem dX3_lengthByTrying_1 : decode cX3_lengthByTrying 1 = .ok (.iload_n 1, 1) := by decide +kernel
theorem dX3_lengthByTrying_2 : decode cX3_lengthByTrying 2 = .ok (.iconst 0, 1) := by decide +kernel
theorem dX3_lengthByTrying_3 : decode cX3_lengthByTrying 3 = .ok (.bipush 8, 2) := by decide +kernel
theorem dX3_lengthByTrying_5 : decode cX3_lengthByTrying 5 = .ok (.invokestatic 45, 3) := by decide +kernel
theorem dX3_lengthByTrying_8 : decode cX3_lengthByTrying 8 = .ok (.ifCond .eq 7, 3) := by decide +kernel
theorem dX3_lengthByTrying_11 : decode cX3_lengthByTrying 11 = .ok (.iconst 0, 1) := by decide +kernel
theorem dX3_lengthByTrying_12 : decode cX3_lengthByTrying 12 = .ok (.goto 4, 3) := by decide +kernel
theorem dX3_lengthByTrying_15 : decode cX3_lengthByTrying 15 = .ok (.iconst 1, 1) := by decide +kernel
theorem dX3_lengthByTrying_16 : decode cX3_lengthByTrying 16 = .ok (.invokevirtual 94, 3) := by decide +kernel
theorem dX3_lengthByTrying_19 : decode cX3_lengthByTrying 19 = .ok (.ifCond .ne 7, 3) := by decide +kernel
theorem dX3_lengthByTrying_22 : decode cX3_lengthByTrying 22 = .ok (.iconst 0, 1) := by decide +kernel
theorem dX3_lengthByTrying_23 : decode cX3_lengthByTrying 23 = .ok (.goto 29, 3) := by decide +kernel
theorem dX3_lengthByTrying_26 : decode cX3_lengthByTrying 26 = .ok (.aload_n 0, 1) := by decide +kernel
theorem dX3_lengthByTrying_27 : decode cX3_lengthByTrying 27 = .ok (.getfield 16, 3) := by decide +kernel
theorem dX3_lengthByTrying_30 : decode cX3_lengthByTrying 30 = .ok (.aload_n 0, 1) := by decide +kernel
theorem dX3_lengthByTrying_31 : decode cX3_lengthByTrying 31 = .ok (.invokevirtual 97, 3) := by decide +kernel
theorem dX3_lengthByTrying_34 : decode cX3_lengthByTrying 34 = .ok (.iaload, 1) := by decide +kernel
theorem dX3_lengthByTrying_35 : decode cX3_lengthByTrying 35 = .ok (.iload_n 1, 1) := by decide +kernel
theorem dX3_lengthByTrying_36 : decode cX3_lengthByTrying 36 = .ok (.if_icmp .gt 15, 3) := by decide +kernel
theorem dX3_lengthByTrying_39 : decode cX3_lengthByTrying 39 = .ok (.aload_n 0, 1) := by decide +kernel
theorem dX3_lengthByTrying_40 : decode cX3_lengthByTrying 40 = .ok (.getfield 16, 3) := by decide +kernel
theorem dX3_lengthByTrying_43 : decode cX3_lengthByTrying 43 = .ok (.aload_n 0, 1) := by decide +kernel
theorem dX3_lengthByTrying_44 : decode cX3_lengthByTrying 44 = .ok (.invokevirtual 97, 3) := by decide +kernel
theorem dX3_lengthByTrying_47 : decode cX3_lengthByTrying 47 = .ok (.iaload, 1) := by decide +kernel
theorem dX3_lengthByTrying_48 : decode cX3_lengthByTrying 48 = .ok (.goto 4, 3) := by decide +kernel
theorem dX3_lengthByTrying_51 : decode cX3_lengthByTrying 51 = .ok (.iconst (-1), 1) := by decide +kernel
theorem dX3_lengthByTrying_52 : decode cX3_lengthByTrying 52 = .ok (.ireturn, 1) := by decide +kernel
theorem dX3_cableAt_0 : decode cX3_cableAt 0 = .ok (.aload_n 0, 1) := by decide +kernel
theorem dX3_cableAt_1 : decode cX3_cableAt 1 = .ok (.iload_n 1, 1) := by decide +kernel
theorem dX3_cableAt_2 : decode cX3_cableAt 2 = .ok (.iconst 0, 1) := by decide +kernel
theorem dX3_cableAt_3 : decode cX3_cableAt 3 = .ok (.aload_n 0, 1) := by decide +kernel
theorem dX3_cableAt_4 : decode cX3_cableAt 4 = .ok (.getfield 16, 3) := by decide +kernel
theorem dX3_cableAt_7 : decode cX3_cableAt 7 = .ok (.aload_n 0, 1) := by decide +kernel
theorem dX3_cableAt_8 : decode cX3_cableAt 8 = .ok (.invokevirtual 97, 3) := by decide +kernel
theorem dX3_cableAt_11 : decode cX3_cableAt 11 = .ok (.iaload, 1) := by decide +kernel
theorem dX3_cableAt_12 : decode cX3_cableAt 12 = .ok (.invokestatic 45, 3) := by decide +kernel
theorem dX3_cableAt_15 : decode cX3_cableAt 15 = .ok (.ifCond .eq 7, 3) := by decide +kernel
theorem dX3_cableAt_18 : decode cX3_cableAt 18 = .ok (.iconst 0, 1) := by decide +kernel
theorem dX3_cableAt_19 : decode cX3_cableAt 19 = .ok (.goto 4, 3) := by decide +kernel
theorem dX3_cableAt_22 : decode cX3_cableAt 22 = .ok (.iconst 1, 1) := by decide +kernel
theorem dX3_cableAt_23 : decode cX3_cableAt 23 = .ok (.invokevirtual 94, 3) := by decide +kernel
theorem dX3_cableAt_26 : decode cX3_cableAt 26 = .ok (.ifCond .ne 5, 3) := by decide +kernel
theorem dX3_cableAt_29 : decode cX3_cableAt 29 = .ok (.iconst 0, 1) := by decide +kernel
theorem dX3_cableAt_30 : decode cX3_cableAt 30 = .ok (.ireturn, 1) := by decide +kernel
theorem dX3_cableAt_31 : decode cX3_cableAt 31 = .ok (.aload_n 0, 1) := by decide +kernel
theorem dX3_cableAt_32 : decode cX3_cableAt 32 = .ok (.invokevirtual 97, 3) := by decide +kernel
theorem dX3_cableAt_35 : decode cX3_cableAt 35 = .ok (.istore_n 2, 1) := by decide +kernel
theorem dX3_cableAt_36 : decode cX3_cableAt 36 = .ok (.iconst 0, 1) := by decide +kernel
theorem dX3_cableAt_37 : decode cX3_cableAt 37 = .ok (.istore_n 3, 1) := by decide +kernel
theorem dX3_cableAt_38 : decode cX3_cableAt 38 = .ok (.iload_n 3, 1) := by decide +kernel
theorem dX3_cableAt_39 : decode cX3_cableAt 39 = .ok (.iload_n 1, 1) := by decide +kernel
theorem dX3_cableAt_40 : decode cX3_cableAt 40 = .ok (.if_icmp .ge 20, 3) := by decide +kernel
theorem dX3_cableAt_43 : decode cX3_cableAt 43 = .ok (.aload_n 0, 1) := by decide +kernel
theorem dX3_cableAt_44 : decode cX3_cableAt 44 = .ok (.iload_n 2, 1) := by decide +kernel
theorem dX3_cableAt_45 : decode cX3_cableAt 45 = .ok (.aload_n 0, 1) := by decide +kernel
theorem dX3_cableAt_46 : decode cX3_cableAt 46 = .ok (.iload_n 2, 1) := by decide +kernel
theorem dX3_cableAt_47 : decode cX3_cableAt 47 = .ok (.invokevirtual 112, 3) := by decide +kernel
theorem dX3_cableAt_50 : decode cX3_cableAt 50 = .ok (.invokevirtual 82, 3) := by decide +kernel
theorem dX3_cableAt_53 : decode cX3_cableAt 53 = .ok (.istore_n 2, 1) := by decide +kernel
theorem dX3_cableAt_54 : decode cX3_cableAt 54 = .ok (.iinc 3 1, 3) := by decide +kernel
theorem dX3_cableAt_57 : decode cX3_cableAt 57 = .ok (.goto (-19), 3) := by decide +kernel
theorem dX3_cableAt_60 : decode cX3_cableAt 60 = .ok (.bipush 10, 2) := by decide +kernel
theorem dX3_cableAt_62 : decode cX3_cableAt 62 = .ok (.iload_n 2, 1) := by decide +kernel
theorem dX3_cableAt_63 : decode cX3_cableAt 63 = .ok (.sipush 343, 3) := by decide +kernel
theorem dX3_cableAt_66 : decode cX3_cableAt 66 = .ok (.idiv, 1) := by decide +kernel
theorem dX3_cableAt_67 : decode cX3_cableAt 67 = .ok (.bipush 7, 2) := by decide +kernel
theorem dX3_cableAt_69 : decode cX3_cableAt 69 = .ok (.irem, 1) := by decide +kernel
theorem dX3_cableAt_70 : decode cX3_cableAt 70 = .ok (.imul, 1) := by decide +kernel
theorem dX3_cableAt_71 : decode cX3_cableAt 71 = .ok (.iload_n 2, 1) := by decide +kernel
theorem dX3_cableAt_72 : decode cX3_cableAt 72 = .ok (.sipush 343, 3) := by decide +kernel
theorem dX3_cableAt_75 : decode cX3_cableAt 75 = .ok (.idiv, 1) := by decide +kernel
theorem dX3_cableAt_76 : decode cX3_cableAt 76 = .ok (.bipush 7, 2) := by decide +kernel
theorem dX3_cableAt_78 : decode cX3_cableAt 78 = .ok (.idiv, 1) := by decide +kernel
theorem dX3_cableAt_79 : decode cX3_cableAt 79 = .ok (.iadd, 1) := by decide +kernel
theorem dX3_cableAt_80 : decode cX3_cableAt 80 = .ok (.ireturn, 1) := by decide +kernel
theorem dX3_bends_0 : decode cX3_bends 0 = .ok (.aload_n 0, 1) := by decide +kernel
theorem dX3_bends_1 : decode cX3_bends 1 = .ok (.iconst 0, 1) := by decide +kernel
theorem dX3_bends_2 : decode cX3_bends 2 = .ok (.putfield 42, 3) := by decide +kernel
theorem dX3_bends_5 : decode cX3_bends 5 = .ok (.iconst 0, 1) := by decide +kernel
theorem dX3_bends_6 : decode cX3_bends 6 = .ok (.istore_n 1, 1) := by decide +kernel
theorem dX3_bends_7 : decode cX3_bends 7 = .ok (.iconst (-1), 1) := by decide +kernel
theorem dX3_bends_8 : decode cX3_bends 8 = .ok (.istore_n 2, 1) := by decide +kernel
theorem dX3_bends_9 : decode cX3_bends 9 = .ok (.aload_n 0, 1) := by decide +kernel
theorem dX3_bends_10 : decode cX3_bends 10 = .ok (.invokevirtual 97, 3) := by decide +kernel
theorem dX3_bends_13 : decode cX3_bends 13 = .ok (.istore_n 3, 1) := by decide +kernel
theorem dX3_bends_14 : decode cX3_bends 14 = .ok (.aload_n 0, 1) := by decide +kernel
theorem dX3_bends_15 : decode cX3_bends 15 = .ok (.getfield 16, 3) := by decide +kernel
theorem dX3_bends_18 : decode cX3_bends 18 = .ok (.iload_n 3, 1) := by decide +kernel
theorem dX3_bends_19 : decode cX3_bends 19 = .ok (.iaload, 1) := by decide +kernel
theorem dX3_bends_20 : decode cX3_bends 20 = .ok (.ifCond .le 42, 3) := by decide +kernel
theorem dX3_bends_23 : decode cX3_bends 23 = .ok (.aload_n 0, 1) := by decide +kernel
theorem dX3_bends_24 : decode cX3_bends 24 = .ok (.iload_n 3, 1) := by decide +kernel
theorem dX3_bends_25 : decode cX3_bends 25 = .ok (.invokevirtual 112, 3) := by decide +kernel
theorem dX3_bends_28 : decode cX3_bends 28 = .ok (.istore 4, 2) := by decide +kernel
theorem dX3_bends_30 : decode cX3_bends 30 = .ok (.iload_n 1, 1) := by decide +kernel
theorem dX3_bends_31 : decode cX3_bends 31 = .ok (.iload_n 2, 1) := by decide +kernel
theorem dX3_bends_32 : decode cX3_bends 32 = .ok (.iconst (-1), 1) := by decide +kernel
theorem dX3_bends_33 : decode cX3_bends 33 = .ok (.if_icmp .eq 13, 3) := by decide +kernel
theorem dX3_bends_36 : decode cX3_bends 36 = .ok (.iload_n 2, 1) := by decide +kernel
theorem dX3_bends_37 : decode cX3_bends 37 = .ok (.iload 4, 2) := by decide +kernel
theorem dX3_bends_39 : decode cX3_bends 39 = .ok (.if_icmp .eq 7, 3) := by decide +kernel
theorem dX3_bends_42 : decode cX3_bends 42 = .ok (.iconst 1, 1) := by decide +kernel
theorem dX3_bends_43 : decode cX3_bends 43 = .ok (.goto 4, 3) := by decide +kernel
theorem dX3_bends_46 : decode cX3_bends 46 = .ok (.iconst 0, 1) := by decide +kernel
theorem dX3_bends_47 : decode cX3_bends 47 = .ok (.iadd, 1) := by decide +kernel
theorem dX3_bends_48 : decode cX3_bends 48 = .ok (.istore_n 1, 1) := by decide +kernel
theorem dX3_bends_49 : decode cX3_bends 49 = .ok (.iload 4, 2) := by decide +kernel
theorem dX3_bends_51 : decode cX3_bends 51 = .ok (.istore_n 2, 1) := by decide +kernel
theorem dX3_bends_52 : decode cX3_bends 52 = .ok (.aload_n 0, 1) := by decide +kernel
theorem dX3_bends_53 : decode cX3_bends 53 = .ok (.iload_n 3, 1) := by decide +kernel
theorem dX3_bends_54 : decode cX3_bends 54 = .ok (.iload_n 2, 1) := by decide +kernel
theorem dX3_bends_55 : decode cX3_bends 55 = .ok (.invokevirtual 82, 3) := by decide +kernel
theorem dX3_bends_58 : decode cX3_bends 58 = .ok (.istore_n 3, 1) := by decide +kernel
theorem dX3_bends_59 : decode cX3_bends 59 = .ok (.goto (-45), 3) := by decide +kernel
theorem dX3_bends_62 : decode cX3_bends 62 = .ok (.iload_n 1, 1) := by decide +kernel
theorem dX3_bends_63 : decode cX3_bends 63 = .ok (.ireturn, 1) := by decide +kernel
theorem dX3_leastOf_0 : decode cX3_leastOf 0 = .ok (.iconst (-1), 1) := by decide +kernel
theorem dX3_leastOf_1 : decode cX3_leastOf 1 = .ok (.istore_n 2, 1) := by decide +kernel
theorem dX3_leastOf_2 : decode cX3_leastOf 2 = .ok (.sipush 343, 3) := by decide +kernel
theorem dX3_leastOf_5 : decode cX3_leastOf 5 = .ok (.iload_n 1, 1) := by decide +kernel
theorem dX3_leastOf_6 : decode cX3_leastOf 6 = .ok (.imul, 1) := by decide +kernel
theorem dX3_leastOf_7 : decode cX3_leastOf 7 = .ok (.istore_n 3, 1) := by decide +kernel
theorem dX3_leastOf_8 : decode cX3_leastOf 8 = .ok (.iload_n 3, 1) := by decide +kernel
theorem dX3_leastOf_9 : decode cX3_leastOf 9 = .ok (.sipush 343, 3) := by decide +kernel
theorem dX3_leastOf_12 : decode cX3_leastOf 12 = .ok (.iload_n 1, 1) := by decide +kernel
theorem dX3_leastOf_13 : decode cX3_leastOf 13 = .ok (.imul, 1) := by decide +kernel
theorem dX3_leastOf_14 : decode cX3_leastOf 14 = .ok (.sipush 343, 3) := by decide +kernel
theorem dX3_leastOf_17 : decode cX3_leastOf 17 = .ok (.iadd, 1) := by decide +kernel
theorem dX3_leastOf_18 : decode cX3_leastOf 18 = .ok (.if_icmp .ge 45, 3) := by decide +kernel
theorem dX3_leastOf_21 : decode cX3_leastOf 21 = .ok (.aload_n 0, 1) := by decide +kernel
theorem dX3_leastOf_22 : decode cX3_leastOf 22 = .ok (.getfield 16, 3) := by decide +kernel
theorem dX3_leastOf_25 : decode cX3_leastOf 25 = .ok (.iload_n 3, 1) := by decide +kernel
theorem dX3_leastOf_26 : decode cX3_leastOf 26 = .ok (.iaload, 1) := by decide +kernel
theorem dX3_leastOf_27 : decode cX3_leastOf 27 = .ok (.iconst (-1), 1) := by decide +kernel
theorem dX3_leastOf_28 : decode cX3_leastOf 28 = .ok (.if_icmp .eq 27, 3) := by decide +kernel
theorem dX3_leastOf_31 : decode cX3_leastOf 31 = .ok (.iload_n 2, 1) := by decide +kernel
theorem dX3_leastOf_32 : decode cX3_leastOf 32 = .ok (.iconst (-1), 1) := by decide +kernel
theorem dX3_leastOf_33 : decode cX3_leastOf 33 = .ok (.if_icmp .eq 13, 3) := by decide +kernel
theorem dX3_leastOf_36 : decode cX3_leastOf 36 = .ok (.aload_n 0, 1) := by decide +kernel
theorem dX3_leastOf_37 : decode cX3_leastOf 37 = .ok (.getfield 16, 3) := by decide +kernel
theorem dX3_leastOf_40 : decode cX3_leastOf 40 = .ok (.iload_n 3, 1) := by decide +kernel
theorem dX3_leastOf_41 : decode cX3_leastOf 41 = .ok (.iaload, 1) := by decide +kernel
theorem dX3_leastOf_42 : decode cX3_leastOf 42 = .ok (.iload_n 2, 1) := by decide +kernel
theorem dX3_leastOf_43 : decode cX3_leastOf 43 = .ok (.if_icmp .ge 12, 3) := by decide +kernel
theorem dX3_leastOf_46 : decode cX3_leastOf 46 = .ok (.aload_n 0, 1) := by decide +kernel
theorem dX3_leastOf_47 : decode cX3_leastOf 47 = .ok (.getfield 16, 3) := by decide +kernel
theorem dX3_leastOf_50 : decode cX3_leastOf 50 = .ok (.iload_n 3, 1) := by decide +kernel
theorem dX3_leastOf_51 : decode cX3_leastOf 51 = .ok (.iaload, 1) := by decide +kernel
theorem dX3_leastOf_52 : decode cX3_leastOf 52 = .ok (.goto 4, 3) := by decide +kernel
theorem dX3_leastOf_55 : decode cX3_leastOf 55 = .ok (.iload_n 2, 1) := by decide +kernel
theorem dX3_leastOf_56 : decode cX3_leastOf 56 = .ok (.istore_n 2, 1) := by decide +kernel
theorem dX3_leastOf_57 : decode cX3_leastOf 57 = .ok (.iinc 3 1, 3) := by decide +kernel
theorem dX3_leastOf_60 : decode cX3_leastOf 60 = .ok (.goto (-52), 3) := by decide +kernel
theorem dX3_leastOf_63 : decode cX3_leastOf 63 = .ok (.iload_n 2, 1) := by decide +kernel
theorem dX3_leastOf_64 : decode cX3_leastOf 64 = .ok (.ireturn, 1) := by decide +kernel
theorem dX3_least_0 : decode cX3_least 0 = .ok (.aload_n 0, 1) := by decide +kernel
theorem dX3_least_1 : decode cX3_least 1 = .ok (.aload_n 0, 1) := by decide +kernel
theorem dX3_least_2 : decode cX3_least 2 = .ok (.iload_n 1, 1) := by decide +kernel
theorem dX3_least_3 : decode cX3_least 3 = .ok (.iload_n 2, 1) := by decide +kernel
theorem dX3_least_4 : decode cX3_least 4 = .ok (.invokevirtual 65, 3) := by decide +kernel
theorem dX3_least_7 : decode cX3_least 7 = .ok (.ifCond .eq 7, 3) := by decide +kernel
theorem dX3_least_10 : decode cX3_least 10 = .ok (.iconst 0, 1) := by decide +kernel
theorem dX3_least_11 : decode cX3_least 11 = .ok (.goto 4, 3) := by decide +kernel
theorem dX3_least_14 : decode cX3_least 14 = .ok (.iconst 1, 1) := by decide +kernel
theorem dX3_least_15 : decode cX3_least 15 = .ok (.invokevirtual 94, 3) := by decide +kernel
theorem dX3_least_18 : decode cX3_least 18 = .ok (.ifCond .eq 15, 3) := by decide +kernel
theorem dX3_least_21 : decode cX3_least 21 = .ok (.aload_n 0, 1) := by decide +kernel
theorem dX3_least_22 : decode cX3_least 22 = .ok (.iload_n 1, 1) := by decide +kernel
theorem dX3_least_23 : decode cX3_least 23 = .ok (.iload_n 2, 1) := by decide +kernel
theorem dX3_least_24 : decode cX3_least 24 = .ok (.invokestatic 52, 3) := by decide +kernel
theorem dX3_least_27 : decode cX3_least 27 = .ok (.invokevirtual 118, 3) := by decide +kernel
theorem dX3_least_30 : decode cX3_least 30 = .ok (.goto 4, 3) := by decide +kernel
theorem dX3_least_33 : decode cX3_least 33 = .ok (.iconst 0, 1) := by decide +kernel
theorem dX3_least_34 : decode cX3_least 34 = .ok (.ireturn, 1) := by decide +kernel
theorem dX3_missing_0 : decode cX3_missing 0 = .ok (.aload_n 0, 1) := by decide +kernel
theorem dX3_missing_1 : decode cX3_missing 1 = .ok (.aload_n 0, 1) := by decide +kernel
theorem dX3_missing_2 : decode cX3_missing 2 = .ok (.iload_n 1, 1) := by decide +kernel
theorem dX3_missing_3 : decode cX3_missing 3 = .ok (.iload_n 2, 1) := by decide +kernel
theorem dX3_missing_4 : decode cX3_missing 4 = .ok (.invokevirtual 65, 3) := by decide +kernel
theorem dX3_missing_7 : decode cX3_missing 7 = .ok (.ifCond .eq 7, 3) := by decide +kernel
theorem dX3_missing_10 : decode cX3_missing 10 = .ok (.iconst 0, 1) := by decide +kernel
theorem dX3_missing_11 : decode cX3_missing 11 = .ok (.goto 4, 3) := by decide +kernel
theorem dX3_missing_14 : decode cX3_missing 14 = .ok (.iconst 1, 1) := by decide +kernel
theorem dX3_missing_15 : decode cX3_missing 15 = .ok (.invokevirtual 94, 3) := by decide +kernel
theorem dX3_missing_18 : decode cX3_missing 18 = .ok (.ifCond .ne 5, 3) := by decide +kernel
theorem dX3_missing_21 : decode cX3_missing 21 = .ok (.iconst 0, 1) := by decide +kernel
theorem dX3_missing_22 : decode cX3_missing 22 = .ok (.ireturn, 1) := by decide +kernel
theorem dX3_missing_23 : decode cX3_missing 23 = .ok (.aload_n 0, 1) := by decide +kernel
theorem dX3_missing_24 : decode cX3_missing 24 = .ok (.iload_n 1, 1) := by decide +kernel
theorem dX3_missing_25 : decode cX3_missing 25 = .ok (.iload_n 2, 1) := by decide +kernel
theorem dX3_missing_26 : decode cX3_missing 26 = .ok (.invokestatic 52, 3) := by decide +kernel
theorem dX3_missing_29 : decode cX3_missing 29 = .ok (.invokevirtual 118, 3) := by decide +kernel
theorem dX3_missing_32 : decode cX3_missing 32 = .ok (.istore_n 3, 1) := by decide +kernel
theorem dX3_missing_33 : decode cX3_missing 33 = .ok (.iload_n 3, 1) := by decide +kernel
theorem dX3_missing_34 : decode cX3_missing 34 = .ok (.iconst (-1), 1) := by decide +kernel
theorem dX3_missing_35 : decode cX3_missing 35 = .ok (.if_icmp .eq 11, 3) := by decide +kernel
theorem dX3_missing_38 : decode cX3_missing 38 = .ok (.iload_n 3, 1) := by decide +kernel
theorem dX3_missing_39 : decode cX3_missing 39 = .ok (.aload_n 0, 1) := by decide +kernel
theorem dX3_missing_40 : decode cX3_missing 40 = .ok (.getfield 36, 3) := by decide +kernel
theorem dX3_missing_43 : decode cX3_missing 43 = .ok (.if_icmp .le 21, 3) := by decide +kernel
theorem dX3_missing_46 : decode cX3_missing 46 = .ok (.iload_n 3, 1) := by decide +kernel
theorem dX3_missing_47 : decode cX3_missing 47 = .ok (.iload_n 3, 1) := by decide +kernel
theorem dX3_missing_48 : decode cX3_missing 48 = .ok (.iconst (-1), 1) := by decide +kernel
theorem dX3_missing_49 : decode cX3_missing 49 = .ok (.if_icmp .ne 7, 3) := by decide +kernel
theorem dX3_missing_52 : decode cX3_missing 52 = .ok (.iconst 0, 1) := by decide +kernel
theorem dX3_missing_53 : decode cX3_missing 53 = .ok (.goto 7, 3) := by decide +kernel
theorem dX3_missing_56 : decode cX3_missing 56 = .ok (.aload_n 0, 1) := by decide +kernel
theorem dX3_missing_57 : decode cX3_missing 57 = .ok (.getfield 36, 3) := by decide +kernel
theorem dX3_missing_60 : decode cX3_missing 60 = .ok (.isub, 1) := by decide +kernel
theorem dX3_missing_61 : decode cX3_missing 61 = .ok (.goto 4, 3) := by decide +kernel
theorem dX3_missing_64 : decode cX3_missing 64 = .ok (.iconst 0, 1) := by decide +kernel
theorem dX3_missing_65 : decode cX3_missing 65 = .ok (.ireturn, 1) := by decide +kernel
theorem dX3_words_0 : decode cX3_words 0 = .ok (.aload_n 0, 1) := by decide +kernel
theorem dX3_words_1 : decode cX3_words 1 = .ok (.aload_n 0, 1) := by decide +kernel
theorem dX3_words_2 : decode cX3_words 2 = .ok (.iload_n 1, 1) := by decide +kernel
theorem dX3_words_3 : decode cX3_words 3 = .ok (.iload_n 2, 1) := by decide +kernel
theorem dX3_words_4 : decode cX3_words 4 = .ok (.invokevirtual 65, 3) := by decide +kernel
theorem dX3_words_7 : decode cX3_words 7 = .ok (.ifCond .eq 7, 3) := by decide +kernel
theorem dX3_words_10 : decode cX3_words 10 = .ok (.iconst 0, 1) := by decide +kernel
theorem dX3_words_11 : decode cX3_words 11 = .ok (.goto 4, 3) := by decide +kernel
theorem dX3_words_14 : decode cX3_words 14 = .ok (.iconst 1, 1) := by decide +kernel
theorem dX3_words_15 : decode cX3_words 15 = .ok (.invokevirtual 94, 3) := by decide +kernel
theorem dX3_words_18 : decode cX3_words 18 = .ok (.ifCond .ne 5, 3) := by decide +kernel
theorem dX3_words_21 : decode cX3_words 21 = .ok (.iconst 0, 1) := by decide +kernel
theorem dX3_words_22 : decode cX3_words 22 = .ok (.ireturn, 1) := by decide +kernel
theorem dX3_words_23 : decode cX3_words 23 = .ok (.iconst 0, 1) := by decide +kernel
theorem dX3_words_24 : decode cX3_words 24 = .ok (.istore_n 3, 1) := by decide +kernel
theorem dX3_words_25 : decode cX3_words 25 = .ok (.sipush 343, 3) := by decide +kernel
theorem dX3_words_28 : decode cX3_words 28 = .ok (.iload_n 1, 1) := by decide +kernel
theorem dX3_words_29 : decode cX3_words 29 = .ok (.iload_n 2, 1) := by decide +kernel
theorem dX3_words_30 : decode cX3_words 30 = .ok (.invokestatic 52, 3) := by decide +kernel
theorem dX3_words_33 : decode cX3_words 33 = .ok (.imul, 1) := by decide +kernel
theorem dX3_words_34 : decode cX3_words 34 = .ok (.istore 4, 2) := by decide +kernel
theorem dX3_words_36 : decode cX3_words 36 = .ok (.iload 4, 2) := by decide +kernel
theorem dX3_words_38 : decode cX3_words 38 = .ok (.istore 5, 2) := by decide +kernel
theorem dX3_words_40 : decode cX3_words 40 = .ok (.iload 5, 2) := by decide +kernel
theorem dX3_words_42 : decode cX3_words 42 = .ok (.iload 4, 2) := by decide +kernel
theorem dX3_words_44 : decode cX3_words 44 = .ok (.sipush 343, 3) := by decide +kernel
theorem dX3_words_47 : decode cX3_words 47 = .ok (.iadd, 1) := by decide +kernel
theorem dX3_words_48 : decode cX3_words 48 = .ok (.if_icmp .ge 26, 3) := by decide +kernel
theorem dX3_words_51 : decode cX3_words 51 = .ok (.iload_n 3, 1) := by decide +kernel
theorem dX3_words_52 : decode cX3_words 52 = .ok (.aload_n 0, 1) := by decide +kernel
theorem dX3_words_53 : decode cX3_words 53 = .ok (.iload 5, 2) := by decide +kernel
theorem dX3_words_55 : decode cX3_words 55 = .ok (.invokevirtual 101, 3) := by decide +kernel
theorem dX3_words_58 : decode cX3_words 58 = .ok (.ifCond .eq 7, 3) := by decide +kernel
theorem dX3_words_61 : decode cX3_words 61 = .ok (.iconst 1, 1) := by decide +kernel
theorem dX3_words_62 : decode cX3_words 62 = .ok (.goto 4, 3) := by decide +kernel
theorem dX3_words_65 : decode cX3_words 65 = .ok (.iconst 0, 1) := by decide +kernel
theorem dX3_words_66 : decode cX3_words 66 = .ok (.iadd, 1) := by decide +kernel
theorem dX3_words_67 : decode cX3_words 67 = .ok (.istore_n 3, 1) := by decide +kernel
theorem dX3_words_68 : decode cX3_words 68 = .ok (.iinc 5 1, 3) := by decide +kernel
theorem dX3_words_71 : decode cX3_words 71 = .ok (.goto (-31), 3) := by decide +kernel
theorem dX3_words_74 : decode cX3_words 74 = .ok (.iload_n 3, 1) := by decide +kernel
theorem dX3_words_75 : decode cX3_words 75 = .ok (.ireturn, 1) := by decide +kernel
theorem dX3_squares_0 : decode cX3_squares 0 = .ok (.aload_n 0, 1) := by decide +kernel
theorem dX3_squares_1 : decode cX3_squares 1 = .ok (.iconst 0, 1) := by decide +kernel
theorem dX3_squares_2 : decode cX3_squares 2 = .ok (.putfield 42, 3) := by decide +kernel
theorem dX3_squares_5 : decode cX3_squares 5 = .ok (.iconst 0, 1) := by decide +kernel
theorem dX3_squares_6 : decode cX3_squares 6 = .ok (.istore_n 1, 1) := by decide +kernel
theorem dX3_squares_7 : decode cX3_squares 7 = .ok (.iconst 0, 1) := by decide +kernel
theorem dX3_squares_8 : decode cX3_squares 8 = .ok (.istore_n 2, 1) := by decide +kernel
theorem dX3_squares_9 : decode cX3_squares 9 = .ok (.iload_n 2, 1) := by decide +kernel
theorem dX3_squares_10 : decode cX3_squares 10 = .ok (.bipush 49, 2) := by decide +kernel
theorem dX3_squares_12 : decode cX3_squares 12 = .ok (.if_icmp .ge 36, 3) := by decide +kernel
theorem dX3_squares_15 : decode cX3_squares 15 = .ok (.aload_n 0, 1) := by decide +kernel
theorem dX3_squares_16 : decode cX3_squares 16 = .ok (.iload_n 2, 1) := by decide +kernel
theorem dX3_squares_17 : decode cX3_squares 17 = .ok (.invokevirtual 118, 3) := by decide +kernel
theorem dX3_squares_20 : decode cX3_squares 20 = .ok (.istore_n 3, 1) := by decide +kernel
theorem dX3_squares_21 : decode cX3_squares 21 = .ok (.iload_n 1, 1) := by decide +kernel
theorem dX3_squares_22 : decode cX3_squares 22 = .ok (.iload_n 3, 1) := by decide +kernel
theorem dX3_squares_23 : decode cX3_squares 23 = .ok (.iconst (-1), 1) := by decide +kernel
theorem dX3_squares_24 : decode cX3_squares 24 = .ok (.if_icmp .eq 15, 3) := by decide +kernel
theorem dX3_squares_27 : decode cX3_squares 27 = .ok (.iload_n 3, 1) := by decide +kernel
theorem dX3_squares_28 : decode cX3_squares 28 = .ok (.aload_n 0, 1) := by decide +kernel
theorem dX3_squares_29 : decode cX3_squares 29 = .ok (.getfield 36, 3) := by decide +kernel
theorem dX3_squares_32 : decode cX3_squares 32 = .ok (.if_icmp .gt 7, 3) := by decide +kernel
theorem dX3_squares_35 : decode cX3_squares 35 = .ok (.iconst 1, 1) := by decide +kernel
theorem dX3_squares_36 : decode cX3_squares 36 = .ok (.goto 4, 3) := by decide +kernel
theorem dX3_squares_39 : decode cX3_squares 39 = .ok (.iconst 0, 1) := by decide +kernel
theorem dX3_squares_40 : decode cX3_squares 40 = .ok (.iadd, 1) := by decide +kernel
theorem dX3_squares_41 : decode cX3_squares 41 = .ok (.istore_n 1, 1) := by decide +kernel
theorem dX3_squares_42 : decode cX3_squares 42 = .ok (.iinc 2 1, 3) := by decide +kernel
theorem dX3_squares_45 : decode cX3_squares 45 = .ok (.goto (-36), 3) := by decide +kernel
theorem dX3_squares_48 : decode cX3_squares 48 = .ok (.iload_n 1, 1) := by decide +kernel
theorem dX3_squares_49 : decode cX3_squares 49 = .ok (.ireturn, 1) := by decide +kernel
end
section
theorem dL_cell_0 : decode cL_cell 0 = .ok (.iload_n 1, 1) := by decide +kernel
theorem dL_cell_1 : decode cL_cell 1 = .ok (.aload_n 0, 1) := by decide +kernel
theorem dL_cell_2 : decode cL_cell 2 = .ok (.arraylength, 1) := by decide +kernel
theorem dL_cell_3 : decode cL_cell 3 = .ok (.if_icmp .ge 9, 3) := by decide +kernel
theorem dL_cell_6 : decode cL_cell 6 = .ok (.aload_n 0, 1) := by decide +kernel
theorem dL_cell_7 : decode cL_cell 7 = .ok (.iload_n 1, 1) := by decide +kernel
theorem dL_cell_8 : decode cL_cell 8 = .ok (.iaload, 1) := by decide +kernel
theorem dL_cell_9 : decode cL_cell 9 = .ok (.goto 4, 3) := by decide +kernel
theorem dL_cell_12 : decode cL_cell 12 = .ok (.iconst 0, 1) := by decide +kernel
theorem dL_cell_13 : decode cL_cell 13 = .ok (.ireturn, 1) := by decide +kernel
theorem dL_pillar_0 : decode cL_pillar 0 = .ok (.aload_n 3, 1) := by decide +kernel
theorem dL_pillar_1 : decode cL_pillar 1 = .ok (.iconst 0, 1) := by decide +kernel
theorem dL_pillar_2 : decode cL_pillar 2 = .ok (.aload_n 0, 1) := by decide +kernel
theorem dL_pillar_3 : decode cL_pillar 3 = .ok (.iload_n 1, 1) := by decide +kernel
theorem dL_pillar_4 : decode cL_pillar 4 = .ok (.iload_n 2, 1) := by decide +kernel
theorem dL_pillar_5 : decode cL_pillar 5 = .ok (.invokevirtual 7, 3) := by decide +kernel
theorem dL_pillar_8 : decode cL_pillar 8 = .ok (.i2l, 1) := by decide +kernel
theorem dL_pillar_9 : decode cL_pillar 9 = .ok (.lastore, 1) := by decide +kernel
theorem dL_pillar_10 : decode cL_pillar 10 = .ok (.goto 11, 3) := by decide +kernel
theorem dL_pillar_13 : decode cL_pillar 13 = .ok (.astore 4, 2) := by decide +kernel
theorem dL_pillar_15 : decode cL_pillar 15 = .ok (.iconst 1, 1) := by decide +kernel
theorem dL_pillar_16 : decode cL_pillar 16 = .ok (.ireturn, 1) := by decide +kernel
theorem dL_pillar_17 : decode cL_pillar 17 = .ok (.astore 4, 2) := by decide +kernel
theorem dL_pillar_19 : decode cL_pillar 19 = .ok (.iconst 2, 1) := by decide +kernel
theorem dL_pillar_20 : decode cL_pillar 20 = .ok (.ireturn, 1) := by decide +kernel
theorem dL_pillar_21 : decode cL_pillar 21 = .ok (.iconst 0, 1) := by decide +kernel
theorem dL_pillar_22 : decode cL_pillar 22 = .ok (.ireturn, 1) := by decide +kernel
theorem dL_base_0 : decode cL_base 0 = .ok (.aload_n 0, 1) := by decide +kernel
theorem dL_base_1 : decode cL_base 1 = .ok (.iload_n 1, 1) := by decide +kernel
theorem dL_base_2 : decode cL_base 2 = .ok (.iload_n 2, 1) := by decide +kernel
theorem dL_base_3 : decode cL_base 3 = .ok (.invokevirtual 17, 3) := by decide +kernel
theorem dL_base_6 : decode cL_base 6 = .ok (.goto 9, 3) := by decide +kernel
theorem dL_base_9 : decode cL_base 9 = .ok (.astore_n 3, 1) := by decide +kernel
theorem dL_base_10 : decode cL_base 10 = .ok (.iconst 1, 1) := by decide +kernel
theorem dL_base_11 : decode cL_base 11 = .ok (.ireturn, 1) := by decide +kernel
theorem dL_base_12 : decode cL_base 12 = .ok (.astore_n 3, 1) := by decide +kernel
theorem dL_base_13 : decode cL_base 13 = .ok (.iconst 2, 1) := by decide +kernel
theorem dL_base_14 : decode cL_base 14 = .ok (.ireturn, 1) := by decide +kernel
theorem dL_base_15 : decode cL_base 15 = .ok (.iconst 0, 1) := by decide +kernel
theorem dL_base_16 : decode cL_base 16 = .ok (.ireturn, 1) := by decide +kernel
theorem dL_step_0 : decode cL_step 0 = .ok (.aload_n 2, 1) := by decide +kernel
theorem dL_step_1 : decode cL_step 1 = .ok (.iconst 0, 1) := by decide +kernel
theorem dL_step_2 : decode cL_step 2 = .ok (.aload_n 0, 1) := by decide +kernel
theorem dL_step_3 : decode cL_step 3 = .ok (.iload_n 1, 1) := by decide +kernel
theorem dL_step_4 : decode cL_step 4 = .ok (.invokevirtual 21, 3) := by decide +kernel
theorem dL_step_7 : decode cL_step 7 = .ok (.i2l, 1) := by decide +kernel
theorem dL_step_8 : decode cL_step 8 = .ok (.lastore, 1) := by decide +kernel
theorem dL_step_9 : decode cL_step 9 = .ok (.goto 9, 3) := by decide +kernel
theorem dL_step_12 : decode cL_step 12 = .ok (.astore_n 3, 1) := by decide +kernel
theorem dL_step_13 : decode cL_step 13 = .ok (.iconst 1, 1) := by decide +kernel
theorem dL_step_14 : decode cL_step 14 = .ok (.ireturn, 1) := by decide +kernel
theorem dL_step_15 : decode cL_step 15 = .ok (.astore_n 3, 1) := by decide +kernel
theorem dL_step_16 : decode cL_step 16 = .ok (.iconst 2, 1) := by decide +kernel
theorem dL_step_17 : decode cL_step 17 = .ok (.ireturn, 1) := by decide +kernel
theorem dL_step_18 : decode cL_step 18 = .ok (.iconst 0, 1) := by decide +kernel
theorem dL_step_19 : decode cL_step 19 = .ok (.ireturn, 1) := by decide +kernel
theorem dL_go_0 : decode cL_go 0 = .ok (.aload_n 3, 1) := by decide +kernel
theorem dL_go_1 : decode cL_go 1 = .ok (.iconst 0, 1) := by decide +kernel
theorem dL_go_2 : decode cL_go 2 = .ok (.aload_n 0, 1) := by decide +kernel
theorem dL_go_3 : decode cL_go 3 = .ok (.iload_n 1, 1) := by decide +kernel
theorem dL_go_4 : decode cL_go 4 = .ok (.iload_n 2, 1) := by decide +kernel
theorem dL_go_5 : decode cL_go 5 = .ok (.invokevirtual 27, 3) := by decide +kernel
theorem dL_go_8 : decode cL_go 8 = .ok (.i2l, 1) := by decide +kernel
theorem dL_go_9 : decode cL_go 9 = .ok (.lastore, 1) := by decide +kernel
theorem dL_go_10 : decode cL_go 10 = .ok (.goto 11, 3) := by decide +kernel
theorem dL_go_13 : decode cL_go 13 = .ok (.astore 4, 2) := by decide +kernel
theorem dL_go_15 : decode cL_go 15 = .ok (.iconst 1, 1) := by decide +kernel
theorem dL_go_16 : decode cL_go 16 = .ok (.ireturn, 1) := by decide +kernel
theorem dL_go_17 : decode cL_go 17 = .ok (.astore 4, 2) := by decide +kernel
theorem dL_go_19 : decode cL_go 19 = .ok (.iconst 2, 1) := by decide +kernel
theorem dL_go_20 : decode cL_go 20 = .ok (.ireturn, 1) := by decide +kernel
theorem dL_go_21 : decode cL_go 21 = .ok (.iconst 0, 1) := by decide +kernel
theorem dL_go_22 : decode cL_go 22 = .ok (.ireturn, 1) := by decide +kernel
theorem dL_back_0 : decode cL_back 0 = .ok (.aload_n 2, 1) := by decide +kernel
theorem dL_back_1 : decode cL_back 1 = .ok (.iconst 0, 1) := by decide +kernel
theorem dL_back_2 : decode cL_back 2 = .ok (.aload_n 0, 1) := by decide +kernel
theorem dL_back_3 : decode cL_back 3 = .ok (.iload_n 1, 1) := by decide +kernel
theorem dL_back_4 : decode cL_back 4 = .ok (.invokevirtual 32, 3) := by decide +kernel
theorem dL_back_7 : decode cL_back 7 = .ok (.i2l, 1) := by decide +kernel
theorem dL_back_8 : decode cL_back 8 = .ok (.lastore, 1) := by decide +kernel
theorem dL_back_9 : decode cL_back 9 = .ok (.goto 6, 3) := by decide +kernel
theorem dL_back_12 : decode cL_back 12 = .ok (.astore_n 3, 1) := by decide +kernel
theorem dL_back_13 : decode cL_back 13 = .ok (.iconst 1, 1) := by decide +kernel
theorem dL_back_14 : decode cL_back 14 = .ok (.ireturn, 1) := by decide +kernel
theorem dL_back_15 : decode cL_back 15 = .ok (.iconst 0, 1) := by decide +kernel
theorem dL_back_16 : decode cL_back 16 = .ok (.ireturn, 1) := by decide +kernel
theorem dL_letterAt_0 : decode cL_letterAt 0 = .ok (.aload_n 2, 1) := by decide +kernel
theorem dL_letterAt_1 : decode cL_letterAt 1 = .ok (.iconst 0, 1) := by decide +kernel
theorem dL_letterAt_2 : decode cL_letterAt 2 = .ok (.aload_n 0, 1) := by decide +kernel
theorem dL_letterAt_3 : decode cL_letterAt 3 = .ok (.iload_n 1, 1) := by decide +kernel
theorem dL_letterAt_4 : decode cL_letterAt 4 = .ok (.invokevirtual 35, 3) := by decide +kernel
theorem dL_letterAt_7 : decode cL_letterAt 7 = .ok (.i2l, 1) := by decide +kernel
theorem dL_letterAt_8 : decode cL_letterAt 8 = .ok (.lastore, 1) := by decide +kernel
theorem dL_letterAt_9 : decode cL_letterAt 9 = .ok (.goto 6, 3) := by decide +kernel
theorem dL_letterAt_12 : decode cL_letterAt 12 = .ok (.astore_n 3, 1) := by decide +kernel
theorem dL_letterAt_13 : decode cL_letterAt 13 = .ok (.iconst 1, 1) := by decide +kernel
theorem dL_letterAt_14 : decode cL_letterAt 14 = .ok (.ireturn, 1) := by decide +kernel
theorem dL_letterAt_15 : decode cL_letterAt 15 = .ok (.iconst 0, 1) := by decide +kernel
theorem dL_letterAt_16 : decode cL_letterAt 16 = .ok (.ireturn, 1) := by decide +kernel
theorem dL_lengthByTrying_0 : decode cL_lengthByTrying 0 = .ok (.aload_n 2, 1) := by decide +kernel
theorem dL_lengthByTrying_1 : decode cL_lengthByTrying 1 = .ok (.iconst 0, 1) := by decide +kernel
theorem dL_lengthByTrying_2 : decode cL_lengthByTrying 2 = .ok (.aload_n 0, 1) := by decide +kernel
theorem dL_lengthByTrying_3 : decode cL_lengthByTrying 3 = .ok (.iload_n 1, 1) := by decide +kernel
theorem dL_lengthByTrying_4 : decode cL_lengthByTrying 4 = .ok (.invokevirtual 38, 3) := by decide +kernel
theorem dL_lengthByTrying_7 : decode cL_lengthByTrying 7 = .ok (.i2l, 1) := by decide +kernel
theorem dL_lengthByTrying_8 : decode cL_lengthByTrying 8 = .ok (.lastore, 1) := by decide +kernel
theorem dL_lengthByTrying_9 : decode cL_lengthByTrying 9 = .ok (.goto 6, 3) := by decide +kernel
theorem dL_lengthByTrying_12 : decode cL_lengthByTrying 12 = .ok (.astore_n 3, 1) := by decide +kernel
theorem dL_lengthByTrying_13 : decode cL_lengthByTrying 13 = .ok (.iconst 1, 1) := by decide +kernel
theorem dL_lengthByTrying_14 : decode cL_lengthByTrying 14 = .ok (.ireturn, 1) := by decide +kernel
theorem dL_lengthByTrying_15 : decode cL_lengthByTrying 15 = .ok (.iconst 0, 1) := by decide +kernel
theorem dL_lengthByTrying_16 : decode cL_lengthByTrying 16 = .ok (.ireturn, 1) := by decide +kernel
theorem dL_cableAt_0 : decode cL_cableAt 0 = .ok (.aload_n 2, 1) := by decide +kernel
theorem dL_cableAt_1 : decode cL_cableAt 1 = .ok (.iconst 0, 1) := by decide +kernel
theorem dL_cableAt_2 : decode cL_cableAt 2 = .ok (.aload_n 0, 1) := by decide +kernel
theorem dL_cableAt_3 : decode cL_cableAt 3 = .ok (.iload_n 1, 1) := by decide +kernel
theorem dL_cableAt_4 : decode cL_cableAt 4 = .ok (.invokevirtual 41, 3) := by decide +kernel
theorem dL_cableAt_7 : decode cL_cableAt 7 = .ok (.i2l, 1) := by decide +kernel
theorem dL_cableAt_8 : decode cL_cableAt 8 = .ok (.lastore, 1) := by decide +kernel
theorem dL_cableAt_9 : decode cL_cableAt 9 = .ok (.goto 6, 3) := by decide +kernel
theorem dL_cableAt_12 : decode cL_cableAt 12 = .ok (.astore_n 3, 1) := by decide +kernel
theorem dL_cableAt_13 : decode cL_cableAt 13 = .ok (.iconst 1, 1) := by decide +kernel
theorem dL_cableAt_14 : decode cL_cableAt 14 = .ok (.ireturn, 1) := by decide +kernel
theorem dL_cableAt_15 : decode cL_cableAt 15 = .ok (.iconst 0, 1) := by decide +kernel
theorem dL_cableAt_16 : decode cL_cableAt 16 = .ok (.ireturn, 1) := by decide +kernel
theorem dL_least_0 : decode cL_least 0 = .ok (.aload_n 3, 1) := by decide +kernel
theorem dL_least_1 : decode cL_least 1 = .ok (.iconst 0, 1) := by decide +kernel
theorem dL_least_2 : decode cL_least 2 = .ok (.aload_n 0, 1) := by decide +kernel
theorem dL_least_3 : decode cL_least 3 = .ok (.iload_n 1, 1) := by decide +kernel
theorem dL_least_4 : decode cL_least 4 = .ok (.iload_n 2, 1) := by decide +kernel
theorem dL_least_5 : decode cL_least 5 = .ok (.invokevirtual 44, 3) := by decide +kernel
theorem dL_least_8 : decode cL_least 8 = .ok (.i2l, 1) := by decide +kernel
theorem dL_least_9 : decode cL_least 9 = .ok (.lastore, 1) := by decide +kernel
theorem dL_least_10 : decode cL_least 10 = .ok (.goto 7, 3) := by decide +kernel
theorem dL_least_13 : decode cL_least 13 = .ok (.astore 4, 2) := by decide +kernel
theorem dL_least_15 : decode cL_least 15 = .ok (.iconst 1, 1) := by decide +kernel
theorem dL_least_16 : decode cL_least 16 = .ok (.ireturn, 1) := by decide +kernel
theorem dL_least_17 : decode cL_least 17 = .ok (.iconst 0, 1) := by decide +kernel
theorem dL_least_18 : decode cL_least 18 = .ok (.ireturn, 1) := by decide +kernel
theorem dL_missing_0 : decode cL_missing 0 = .ok (.aload_n 3, 1) := by decide +kernel
theorem dL_missing_1 : decode cL_missing 1 = .ok (.iconst 0, 1) := by decide +kernel
theorem dL_missing_2 : decode cL_missing 2 = .ok (.aload_n 0, 1) := by decide +kernel
theorem dL_missing_3 : decode cL_missing 3 = .ok (.iload_n 1, 1) := by decide +kernel
theorem dL_missing_4 : decode cL_missing 4 = .ok (.iload_n 2, 1) := by decide +kernel
theorem dL_missing_5 : decode cL_missing 5 = .ok (.invokevirtual 47, 3) := by decide +kernel
theorem dL_missing_8 : decode cL_missing 8 = .ok (.i2l, 1) := by decide +kernel
theorem dL_missing_9 : decode cL_missing 9 = .ok (.lastore, 1) := by decide +kernel
theorem dL_missing_10 : decode cL_missing 10 = .ok (.goto 7, 3) := by decide +kernel
theorem dL_missing_13 : decode cL_missing 13 = .ok (.astore 4, 2) := by decide +kernel
theorem dL_missing_15 : decode cL_missing 15 = .ok (.iconst 1, 1) := by decide +kernel
theorem dL_missing_16 : decode cL_missing 16 = .ok (.ireturn, 1) := by decide +kernel
theorem dL_missing_17 : decode cL_missing 17 = .ok (.iconst 0, 1) := by decide +kernel
theorem dL_missing_18 : decode cL_missing 18 = .ok (.ireturn, 1) := by decide +kernel
theorem dL_words_0 : decode cL_words 0 = .ok (.aload_n 3, 1) := by decide +kernel
theorem dL_words_1 : decode cL_words 1 = .ok (.iconst 0, 1) := by decide +kernel
theorem dL_words_2 : decode cL_words 2 = .ok (.aload_n 0, 1) := by decide +kernel
theorem dL_words_3 : decode cL_words 3 = .ok (.iload_n 1, 1) := by decide +kernel
theorem dL_words_4 : decode cL_words 4 = .ok (.iload_n 2, 1) := by decide +kernel
theorem dL_words_5 : decode cL_words 5 = .ok (.invokevirtual 50, 3) := by decide +kernel
theorem dL_words_8 : decode cL_words 8 = .ok (.i2l, 1) := by decide +kernel
theorem dL_words_9 : decode cL_words 9 = .ok (.lastore, 1) := by decide +kernel
theorem dL_words_10 : decode cL_words 10 = .ok (.goto 7, 3) := by decide +kernel
theorem dL_words_13 : decode cL_words 13 = .ok (.astore 4, 2) := by decide +kernel
theorem dL_words_15 : decode cL_words 15 = .ok (.iconst 1, 1) := by decide +kernel
theorem dL_words_16 : decode cL_words 16 = .ok (.ireturn, 1) := by decide +kernel
theorem dL_words_17 : decode cL_words 17 = .ok (.iconst 0, 1) := by decide +kernel
theorem dL_words_18 : decode cL_words 18 = .ok (.ireturn, 1) := by decide +kernel
theorem dL_law_0 : decode cL_law 0 = .ok (.new 8, 3) := by decide +kernel
theorem dL_law_3 : decode cL_law 3 = .ok (.dup, 1) := by decide +kernel
theorem dL_law_4 : decode cL_law 4 = .ok (.aload_n 0, 1) := by decide +kernel
theorem dL_law_5 : decode cL_law 5 = .ok (.iconst 0, 1) := by decide +kernel
theorem dL_law_6 : decode cL_law 6 = .ok (.invokestatic 53, 3) := by decide +kernel
theorem dL_law_9 : decode cL_law 9 = .ok (.aload_n 0, 1) := by decide +kernel
theorem dL_law_10 : decode cL_law 10 = .ok (.iconst 1, 1) := by decide +kernel
theorem dL_law_11 : decode cL_law 11 = .ok (.invokestatic 53, 3) := by decide +kernel
theorem dL_law_14 : decode cL_law 14 = .ok (.aload_n 0, 1) := by decide +kernel
theorem dL_law_15 : decode cL_law 15 = .ok (.iconst 2, 1) := by decide +kernel
theorem dL_law_16 : decode cL_law 16 = .ok (.invokestatic 53, 3) := by decide +kernel
theorem dL_law_19 : decode cL_law 19 = .ok (.invokespecial 59, 3) := by decide +kernel
theorem dL_law_22 : decode cL_law 22 = .ok (.astore_n 1, 1) := by decide +kernel
theorem dL_law_23 : decode cL_law 23 = .ok (.new 62, 3) := by decide +kernel
theorem dL_law_26 : decode cL_law 26 = .ok (.dup, 1) := by decide +kernel
theorem dL_law_27 : decode cL_law 27 = .ok (.aload_n 0, 1) := by decide +kernel
theorem dL_law_28 : decode cL_law 28 = .ok (.iconst 0, 1) := by decide +kernel
theorem dL_law_29 : decode cL_law 29 = .ok (.invokestatic 53, 3) := by decide +kernel
theorem dL_law_32 : decode cL_law 32 = .ok (.aload_n 0, 1) := by decide +kernel
theorem dL_law_33 : decode cL_law 33 = .ok (.iconst 1, 1) := by decide +kernel
theorem dL_law_34 : decode cL_law 34 = .ok (.invokestatic 53, 3) := by decide +kernel
theorem dL_law_37 : decode cL_law 37 = .ok (.aload_n 0, 1) := by decide +kernel
theorem dL_law_38 : decode cL_law 38 = .ok (.iconst 2, 1) := by decide +kernel
theorem dL_law_39 : decode cL_law 39 = .ok (.invokestatic 53, 3) := by decide +kernel
theorem dL_law_42 : decode cL_law 42 = .ok (.invokespecial 64, 3) := by decide +kernel
theorem dL_law_45 : decode cL_law 45 = .ok (.astore_n 2, 1) := by decide +kernel
theorem dL_law_46 : decode cL_law 46 = .ok (.iconst 1, 1) := by decide +kernel
theorem dL_law_47 : decode cL_law 47 = .ok (.newarray .long, 2) := by decide +kernel
theorem dL_law_49 : decode cL_law 49 = .ok (.astore_n 3, 1) := by decide +kernel
theorem dL_law_50 : decode cL_law 50 = .ok (.iconst 3, 1) := by decide +kernel
theorem dL_law_51 : decode cL_law 51 = .ok (.istore 4, 2) := by decide +kernel
theorem dL_law_53 : decode cL_law 53 = .ok (.iload 4, 2) := by decide +kernel
theorem dL_law_55 : decode cL_law 55 = .ok (.aload_n 0, 1) := by decide +kernel
theorem dL_law_56 : decode cL_law 56 = .ok (.arraylength, 1) := by decide +kernel
theorem dL_law_57 : decode cL_law 57 = .ok (.iconst 3, 1) := by decide +kernel
theorem dL_law_58 : decode cL_law 58 = .ok (.isub, 1) := by decide +kernel
theorem dL_law_59 : decode cL_law 59 = .ok (.if_icmp .gt 879, 3) := by decide +kernel
theorem dL_law_62 : decode cL_law 62 = .ok (.aload_n 0, 1) := by decide +kernel
theorem dL_law_63 : decode cL_law 63 = .ok (.iload 4, 2) := by decide +kernel
theorem dL_law_65 : decode cL_law 65 = .ok (.iaload, 1) := by decide +kernel
theorem dL_law_66 : decode cL_law 66 = .ok (.bipush 31, 2) := by decide +kernel
theorem dL_law_68 : decode cL_law 68 = .ok (.iand, 1) := by decide +kernel
theorem dL_law_69 : decode cL_law 69 = .ok (.tableswitch 863 0 18 #[91, 159, 207, 263, 331, 387, 400, 413, 426, 482, 495, 508, 521, 577, 633, 646, 714, 782, 850], 91) := by decide +kernel
theorem dL_law_160 : decode cL_law 160 = .ok (.aload_n 1, 1) := by decide +kernel
theorem dL_law_161 : decode cL_law 161 = .ok (.aload_n 0, 1) := by decide +kernel
theorem dL_law_162 : decode cL_law 162 = .ok (.iload 4, 2) := by decide +kernel
theorem dL_law_164 : decode cL_law 164 = .ok (.iconst 1, 1) := by decide +kernel
theorem dL_law_165 : decode cL_law 165 = .ok (.iadd, 1) := by decide +kernel
theorem dL_law_166 : decode cL_law 166 = .ok (.iaload, 1) := by decide +kernel
theorem dL_law_167 : decode cL_law 167 = .ok (.aload_n 0, 1) := by decide +kernel
theorem dL_law_168 : decode cL_law 168 = .ok (.iload 4, 2) := by decide +kernel
theorem dL_law_170 : decode cL_law 170 = .ok (.iconst 2, 1) := by decide +kernel
theorem dL_law_171 : decode cL_law 171 = .ok (.iadd, 1) := by decide +kernel
theorem dL_law_172 : decode cL_law 172 = .ok (.iaload, 1) := by decide +kernel
theorem dL_law_173 : decode cL_law 173 = .ok (.aload_n 3, 1) := by decide +kernel
theorem dL_law_174 : decode cL_law 174 = .ok (.invokestatic 65, 3) := by decide +kernel
theorem dL_law_177 : decode cL_law 177 = .ok (.istore 5, 2) := by decide +kernel
theorem dL_law_179 : decode cL_law 179 = .ok (.aload_n 2, 1) := by decide +kernel
theorem dL_law_180 : decode cL_law 180 = .ok (.aload_n 0, 1) := by decide +kernel
theorem dL_law_181 : decode cL_law 181 = .ok (.iload 4, 2) := by decide +kernel
theorem dL_law_183 : decode cL_law 183 = .ok (.iconst 1, 1) := by decide +kernel
theorem dL_law_184 : decode cL_law 184 = .ok (.iadd, 1) := by decide +kernel
theorem dL_law_185 : decode cL_law 185 = .ok (.iaload, 1) := by decide +kernel
theorem dL_law_186 : decode cL_law 186 = .ok (.aload_n 0, 1) := by decide +kernel
theorem dL_law_187 : decode cL_law 187 = .ok (.iload 4, 2) := by decide +kernel
theorem dL_law_189 : decode cL_law 189 = .ok (.iconst 2, 1) := by decide +kernel
theorem dL_law_190 : decode cL_law 190 = .ok (.iadd, 1) := by decide +kernel
theorem dL_law_191 : decode cL_law 191 = .ok (.iaload, 1) := by decide +kernel
theorem dL_law_192 : decode cL_law 192 = .ok (.invokevirtual 68, 3) := by decide +kernel
theorem dL_law_195 : decode cL_law 195 = .ok (.istore 6, 2) := by decide +kernel
theorem dL_law_197 : decode cL_law 197 = .ok (.aload_n 2, 1) := by decide +kernel
theorem dL_law_198 : decode cL_law 198 = .ok (.invokevirtual 69, 3) := by decide +kernel
theorem dL_law_201 : decode cL_law 201 = .ok (.iload 5, 2) := by decide +kernel
theorem dL_law_203 : decode cL_law 203 = .ok (.if_icmp .eq 5, 3) := by decide +kernel
theorem dL_law_206 : decode cL_law 206 = .ok (.iconst 0, 1) := by decide +kernel
theorem dL_law_207 : decode cL_law 207 = .ok (.ireturn, 1) := by decide +kernel
theorem dL_law_208 : decode cL_law 208 = .ok (.iload 5, 2) := by decide +kernel
theorem dL_law_210 : decode cL_law 210 = .ok (.ifCond .ne 15, 3) := by decide +kernel
theorem dL_law_213 : decode cL_law 213 = .ok (.aload_n 3, 1) := by decide +kernel
theorem dL_law_214 : decode cL_law 214 = .ok (.iconst 0, 1) := by decide +kernel
theorem dL_law_215 : decode cL_law 215 = .ok (.laload, 1) := by decide +kernel
theorem dL_law_216 : decode cL_law 216 = .ok (.iload 6, 2) := by decide +kernel
theorem dL_law_218 : decode cL_law 218 = .ok (.i2l, 1) := by decide +kernel
theorem dL_law_219 : decode cL_law 219 = .ok (.lcmp, 1) := by decide +kernel
theorem dL_law_220 : decode cL_law 220 = .ok (.ifCond .eq 5, 3) := by decide +kernel
theorem dL_law_223 : decode cL_law 223 = .ok (.iconst 0, 1) := by decide +kernel
theorem dL_law_224 : decode cL_law 224 = .ok (.ireturn, 1) := by decide +kernel
theorem dL_law_225 : decode cL_law 225 = .ok (.goto 707, 3) := by decide +kernel
theorem dL_law_228 : decode cL_law 228 = .ok (.aload_n 1, 1) := by decide +kernel
theorem dL_law_229 : decode cL_law 229 = .ok (.aload_n 0, 1) := by decide +kernel
theorem dL_law_230 : decode cL_law 230 = .ok (.iload 4, 2) := by decide +kernel
theorem dL_law_232 : decode cL_law 232 = .ok (.iconst 1, 1) := by decide +kernel
theorem dL_law_233 : decode cL_law 233 = .ok (.iadd, 1) := by decide +kernel
theorem dL_law_234 : decode cL_law 234 = .ok (.iaload, 1) := by decide +kernel
theorem dL_law_235 : decode cL_law 235 = .ok (.aload_n 0, 1) := by decide +kernel
theorem dL_law_236 : decode cL_law 236 = .ok (.iload 4, 2) := by decide +kernel
theorem dL_law_238 : decode cL_law 238 = .ok (.iconst 2, 1) := by decide +kernel
theorem dL_law_239 : decode cL_law 239 = .ok (.iadd, 1) := by decide +kernel
theorem dL_law_240 : decode cL_law 240 = .ok (.iaload, 1) := by decide +kernel
theorem dL_law_241 : decode cL_law 241 = .ok (.invokestatic 73, 3) := by decide +kernel
theorem dL_law_244 : decode cL_law 244 = .ok (.istore 5, 2) := by decide +kernel
theorem dL_law_246 : decode cL_law 246 = .ok (.aload_n 2, 1) := by decide +kernel
theorem dL_law_247 : decode cL_law 247 = .ok (.aload_n 0, 1) := by decide +kernel
theorem dL_law_248 : decode cL_law 248 = .ok (.iload 4, 2) := by decide +kernel
theorem dL_law_250 : decode cL_law 250 = .ok (.iconst 1, 1) := by decide +kernel
theorem dL_law_251 : decode cL_law 251 = .ok (.iadd, 1) := by decide +kernel
theorem dL_law_252 : decode cL_law 252 = .ok (.iaload, 1) := by decide +kernel
theorem dL_law_253 : decode cL_law 253 = .ok (.aload_n 0, 1) := by decide +kernel
theorem dL_law_254 : decode cL_law 254 = .ok (.iload 4, 2) := by decide +kernel
theorem dL_law_256 : decode cL_law 256 = .ok (.iconst 2, 1) := by decide +kernel
theorem dL_law_257 : decode cL_law 257 = .ok (.iadd, 1) := by decide +kernel
theorem dL_law_258 : decode cL_law 258 = .ok (.iaload, 1) := by decide +kernel
theorem dL_law_259 : decode cL_law 259 = .ok (.invokevirtual 76, 3) := by decide +kernel
theorem dL_law_262 : decode cL_law 262 = .ok (.aload_n 2, 1) := by decide +kernel
theorem dL_law_263 : decode cL_law 263 = .ok (.invokevirtual 69, 3) := by decide +kernel
theorem dL_law_266 : decode cL_law 266 = .ok (.iload 5, 2) := by decide +kernel
theorem dL_law_268 : decode cL_law 268 = .ok (.if_icmp .eq 5, 3) := by decide +kernel
theorem dL_law_271 : decode cL_law 271 = .ok (.iconst 0, 1) := by decide +kernel
theorem dL_law_272 : decode cL_law 272 = .ok (.ireturn, 1) := by decide +kernel
theorem dL_law_273 : decode cL_law 273 = .ok (.goto 659, 3) := by decide +kernel
theorem dL_law_276 : decode cL_law 276 = .ok (.aload_n 1, 1) := by decide +kernel
theorem dL_law_277 : decode cL_law 277 = .ok (.aload_n 0, 1) := by decide +kernel
theorem dL_law_278 : decode cL_law 278 = .ok (.iload 4, 2) := by decide +kernel
theorem dL_law_280 : decode cL_law 280 = .ok (.iconst 1, 1) := by decide +kernel
theorem dL_law_281 : decode cL_law 281 = .ok (.iadd, 1) := by decide +kernel
theorem dL_law_282 : decode cL_law 282 = .ok (.iaload, 1) := by decide +kernel
theorem dL_law_283 : decode cL_law 283 = .ok (.aload_n 3, 1) := by decide +kernel
theorem dL_law_284 : decode cL_law 284 = .ok (.invokestatic 77, 3) := by decide +kernel
theorem dL_law_287 : decode cL_law 287 = .ok (.istore 5, 2) := by decide +kernel
theorem dL_law_289 : decode cL_law 289 = .ok (.aload_n 2, 1) := by decide +kernel
theorem dL_law_290 : decode cL_law 290 = .ok (.aload_n 0, 1) := by decide +kernel
theorem dL_law_291 : decode cL_law 291 = .ok (.iload 4, 2) := by decide +kernel
theorem dL_law_293 : decode cL_law 293 = .ok (.iconst 1, 1) := by decide +kernel
theorem dL_law_294 : decode cL_law 294 = .ok (.iadd, 1) := by decide +kernel
theorem dL_law_295 : decode cL_law 295 = .ok (.iaload, 1) := by decide +kernel
theorem dL_law_296 : decode cL_law 296 = .ok (.invokevirtual 80, 3) := by decide +kernel
theorem dL_law_299 : decode cL_law 299 = .ok (.istore 6, 2) := by decide +kernel
theorem dL_law_301 : decode cL_law 301 = .ok (.aload_n 2, 1) := by decide +kernel
theorem dL_law_302 : decode cL_law 302 = .ok (.invokevirtual 69, 3) := by decide +kernel
theorem dL_law_305 : decode cL_law 305 = .ok (.iload 5, 2) := by decide +kernel
theorem dL_law_307 : decode cL_law 307 = .ok (.if_icmp .eq 5, 3) := by decide +kernel
theorem dL_law_310 : decode cL_law 310 = .ok (.iconst 0, 1) := by decide +kernel
theorem dL_law_311 : decode cL_law 311 = .ok (.ireturn, 1) := by decide +kernel
theorem dL_law_312 : decode cL_law 312 = .ok (.iload 5, 2) := by decide +kernel
theorem dL_law_314 : decode cL_law 314 = .ok (.ifCond .ne 15, 3) := by decide +kernel
theorem dL_law_317 : decode cL_law 317 = .ok (.aload_n 3, 1) := by decide +kernel
theorem dL_law_318 : decode cL_law 318 = .ok (.iconst 0, 1) := by decide +kernel
theorem dL_law_319 : decode cL_law 319 = .ok (.laload, 1) := by decide +kernel
theorem dL_law_320 : decode cL_law 320 = .ok (.iload 6, 2) := by decide +kernel
theorem dL_law_322 : decode cL_law 322 = .ok (.i2l, 1) := by decide +kernel
theorem dL_law_323 : decode cL_law 323 = .ok (.lcmp, 1) := by decide +kernel
theorem dL_law_324 : decode cL_law 324 = .ok (.ifCond .eq 5, 3) := by decide +kernel
theorem dL_law_327 : decode cL_law 327 = .ok (.iconst 0, 1) := by decide +kernel
theorem dL_law_328 : decode cL_law 328 = .ok (.ireturn, 1) := by decide +kernel
theorem dL_law_329 : decode cL_law 329 = .ok (.goto 603, 3) := by decide +kernel
theorem dL_law_332 : decode cL_law 332 = .ok (.aload_n 1, 1) := by decide +kernel
theorem dL_law_333 : decode cL_law 333 = .ok (.aload_n 0, 1) := by decide +kernel
theorem dL_law_334 : decode cL_law 334 = .ok (.iload 4, 2) := by decide +kernel
theorem dL_law_336 : decode cL_law 336 = .ok (.iconst 1, 1) := by decide +kernel
theorem dL_law_337 : decode cL_law 337 = .ok (.iadd, 1) := by decide +kernel
theorem dL_law_338 : decode cL_law 338 = .ok (.iaload, 1) := by decide +kernel
theorem dL_law_339 : decode cL_law 339 = .ok (.aload_n 0, 1) := by decide +kernel
theorem dL_law_340 : decode cL_law 340 = .ok (.iload 4, 2) := by decide +kernel
theorem dL_law_342 : decode cL_law 342 = .ok (.iconst 2, 1) := by decide +kernel
theorem dL_law_343 : decode cL_law 343 = .ok (.iadd, 1) := by decide +kernel
theorem dL_law_344 : decode cL_law 344 = .ok (.iaload, 1) := by decide +kernel
theorem dL_law_345 : decode cL_law 345 = .ok (.aload_n 3, 1) := by decide +kernel
theorem dL_law_346 : decode cL_law 346 = .ok (.invokestatic 81, 3) := by decide +kernel
theorem dL_law_349 : decode cL_law 349 = .ok (.istore 5, 2) := by decide +kernel
theorem dL_law_351 : decode cL_law 351 = .ok (.aload_n 2, 1) := by decide +kernel
theorem dL_law_352 : decode cL_law 352 = .ok (.aload_n 0, 1) := by decide +kernel
theorem dL_law_353 : decode cL_law 353 = .ok (.iload 4, 2) := by decide +kernel
theorem dL_law_355 : decode cL_law 355 = .ok (.iconst 1, 1) := by decide +kernel
theorem dL_law_356 : decode cL_law 356 = .ok (.iadd, 1) := by decide +kernel
theorem dL_law_357 : decode cL_law 357 = .ok (.iaload, 1) := by decide +kernel
theorem dL_law_358 : decode cL_law 358 = .ok (.aload_n 0, 1) := by decide +kernel
theorem dL_law_359 : decode cL_law 359 = .ok (.iload 4, 2) := by decide +kernel
theorem dL_law_361 : decode cL_law 361 = .ok (.iconst 2, 1) := by decide +kernel
theorem dL_law_362 : decode cL_law 362 = .ok (.iadd, 1) := by decide +kernel
theorem dL_law_363 : decode cL_law 363 = .ok (.iaload, 1) := by decide +kernel
theorem dL_law_364 : decode cL_law 364 = .ok (.invokevirtual 83, 3) := by decide +kernel
theorem dL_law_367 : decode cL_law 367 = .ok (.istore 6, 2) := by decide +kernel
theorem dL_law_369 : decode cL_law 369 = .ok (.aload_n 2, 1) := by decide +kernel
theorem dL_law_370 : decode cL_law 370 = .ok (.invokevirtual 69, 3) := by decide +kernel
theorem dL_law_373 : decode cL_law 373 = .ok (.iload 5, 2) := by decide +kernel
theorem dL_law_375 : decode cL_law 375 = .ok (.if_icmp .eq 5, 3) := by decide +kernel
theorem dL_law_378 : decode cL_law 378 = .ok (.iconst 0, 1) := by decide +kernel
theorem dL_law_379 : decode cL_law 379 = .ok (.ireturn, 1) := by decide +kernel
theorem dL_law_380 : decode cL_law 380 = .ok (.iload 5, 2) := by decide +kernel
theorem dL_law_382 : decode cL_law 382 = .ok (.ifCond .ne 15, 3) := by decide +kernel
theorem dL_law_385 : decode cL_law 385 = .ok (.aload_n 3, 1) := by decide +kernel
theorem dL_law_386 : decode cL_law 386 = .ok (.iconst 0, 1) := by decide +kernel
theorem dL_law_387 : decode cL_law 387 = .ok (.laload, 1) := by decide +kernel
theorem dL_law_388 : decode cL_law 388 = .ok (.iload 6, 2) := by decide +kernel
theorem dL_law_390 : decode cL_law 390 = .ok (.i2l, 1) := by decide +kernel
theorem dL_law_391 : decode cL_law 391 = .ok (.lcmp, 1) := by decide +kernel
theorem dL_law_392 : decode cL_law 392 = .ok (.ifCond .eq 5, 3) := by decide +kernel
theorem dL_law_395 : decode cL_law 395 = .ok (.iconst 0, 1) := by decide +kernel
theorem dL_law_396 : decode cL_law 396 = .ok (.ireturn, 1) := by decide +kernel
theorem dL_law_397 : decode cL_law 397 = .ok (.goto 535, 3) := by decide +kernel
theorem dL_law_400 : decode cL_law 400 = .ok (.aload_n 1, 1) := by decide +kernel
theorem dL_law_401 : decode cL_law 401 = .ok (.aload_n 0, 1) := by decide +kernel
theorem dL_law_402 : decode cL_law 402 = .ok (.iload 4, 2) := by decide +kernel
theorem dL_law_404 : decode cL_law 404 = .ok (.iconst 1, 1) := by decide +kernel
theorem dL_law_405 : decode cL_law 405 = .ok (.iadd, 1) := by decide +kernel
theorem dL_law_406 : decode cL_law 406 = .ok (.iaload, 1) := by decide +kernel
theorem dL_law_407 : decode cL_law 407 = .ok (.aload_n 3, 1) := by decide +kernel
theorem dL_law_408 : decode cL_law 408 = .ok (.invokestatic 84, 3) := by decide +kernel
theorem dL_law_411 : decode cL_law 411 = .ok (.istore 5, 2) := by decide +kernel
theorem dL_law_413 : decode cL_law 413 = .ok (.aload_n 2, 1) := by decide +kernel
theorem dL_law_414 : decode cL_law 414 = .ok (.aload_n 0, 1) := by decide +kernel
theorem dL_law_415 : decode cL_law 415 = .ok (.iload 4, 2) := by decide +kernel
theorem dL_law_417 : decode cL_law 417 = .ok (.iconst 1, 1) := by decide +kernel
theorem dL_law_418 : decode cL_law 418 = .ok (.iadd, 1) := by decide +kernel
theorem dL_law_419 : decode cL_law 419 = .ok (.iaload, 1) := by decide +kernel
theorem dL_law_420 : decode cL_law 420 = .ok (.invokevirtual 86, 3) := by decide +kernel
theorem dL_law_423 : decode cL_law 423 = .ok (.istore 6, 2) := by decide +kernel
theorem dL_law_425 : decode cL_law 425 = .ok (.aload_n 2, 1) := by decide +kernel
theorem dL_law_426 : decode cL_law 426 = .ok (.invokevirtual 69, 3) := by decide +kernel
theorem dL_law_429 : decode cL_law 429 = .ok (.iload 5, 2) := by decide +kernel
theorem dL_law_431 : decode cL_law 431 = .ok (.if_icmp .eq 5, 3) := by decide +kernel
theorem dL_law_434 : decode cL_law 434 = .ok (.iconst 0, 1) := by decide +kernel
theorem dL_law_435 : decode cL_law 435 = .ok (.ireturn, 1) := by decide +kernel
theorem dL_law_436 : decode cL_law 436 = .ok (.iload 5, 2) := by decide +kernel
theorem dL_law_438 : decode cL_law 438 = .ok (.ifCond .ne 15, 3) := by decide +kernel
theorem dL_law_441 : decode cL_law 441 = .ok (.aload_n 3, 1) := by decide +kernel
theorem dL_law_442 : decode cL_law 442 = .ok (.iconst 0, 1) := by decide +kernel
theorem dL_law_443 : decode cL_law 443 = .ok (.laload, 1) := by decide +kernel
theorem dL_law_444 : decode cL_law 444 = .ok (.iload 6, 2) := by decide +kernel
theorem dL_law_446 : decode cL_law 446 = .ok (.i2l, 1) := by decide +kernel
theorem dL_law_447 : decode cL_law 447 = .ok (.lcmp, 1) := by decide +kernel
theorem dL_law_448 : decode cL_law 448 = .ok (.ifCond .eq 5, 3) := by decide +kernel
theorem dL_law_451 : decode cL_law 451 = .ok (.iconst 0, 1) := by decide +kernel
theorem dL_law_452 : decode cL_law 452 = .ok (.ireturn, 1) := by decide +kernel
theorem dL_law_453 : decode cL_law 453 = .ok (.goto 479, 3) := by decide +kernel
theorem dL_law_456 : decode cL_law 456 = .ok (.aload_n 1, 1) := by decide +kernel
theorem dL_law_457 : decode cL_law 457 = .ok (.invokevirtual 87, 3) := by decide +kernel
theorem dL_law_460 : decode cL_law 460 = .ok (.aload_n 2, 1) := by decide +kernel
theorem dL_law_461 : decode cL_law 461 = .ok (.invokevirtual 90, 3) := by decide +kernel
theorem dL_law_464 : decode cL_law 464 = .ok (.if_icmp .eq 468, 3) := by decide +kernel
theorem dL_law_467 : decode cL_law 467 = .ok (.iconst 0, 1) := by decide +kernel
theorem dL_law_468 : decode cL_law 468 = .ok (.ireturn, 1) := by decide +kernel
theorem dL_law_469 : decode cL_law 469 = .ok (.aload_n 1, 1) := by decide +kernel
theorem dL_law_470 : decode cL_law 470 = .ok (.invokevirtual 91, 3) := by decide +kernel
theorem dL_law_473 : decode cL_law 473 = .ok (.aload_n 2, 1) := by decide +kernel
theorem dL_law_474 : decode cL_law 474 = .ok (.invokevirtual 94, 3) := by decide +kernel
theorem dL_law_477 : decode cL_law 477 = .ok (.if_icmp .eq 455, 3) := by decide +kernel
theorem dL_law_480 : decode cL_law 480 = .ok (.iconst 0, 1) := by decide +kernel
theorem dL_law_481 : decode cL_law 481 = .ok (.ireturn, 1) := by decide +kernel
theorem dL_law_482 : decode cL_law 482 = .ok (.aload_n 1, 1) := by decide +kernel
theorem dL_law_483 : decode cL_law 483 = .ok (.invokevirtual 95, 3) := by decide +kernel
theorem dL_law_486 : decode cL_law 486 = .ok (.aload_n 2, 1) := by decide +kernel
theorem dL_law_487 : decode cL_law 487 = .ok (.invokevirtual 98, 3) := by decide +kernel
theorem dL_law_490 : decode cL_law 490 = .ok (.if_icmp .eq 442, 3) := by decide +kernel
theorem dL_law_493 : decode cL_law 493 = .ok (.iconst 0, 1) := by decide +kernel
theorem dL_law_494 : decode cL_law 494 = .ok (.ireturn, 1) := by decide +kernel
theorem dL_law_495 : decode cL_law 495 = .ok (.aload_n 1, 1) := by decide +kernel
theorem dL_law_496 : decode cL_law 496 = .ok (.aload_n 0, 1) := by decide +kernel
theorem dL_law_497 : decode cL_law 497 = .ok (.iload 4, 2) := by decide +kernel
theorem dL_law_499 : decode cL_law 499 = .ok (.iconst 1, 1) := by decide +kernel
theorem dL_law_500 : decode cL_law 500 = .ok (.iadd, 1) := by decide +kernel
theorem dL_law_501 : decode cL_law 501 = .ok (.iaload, 1) := by decide +kernel
theorem dL_law_502 : decode cL_law 502 = .ok (.aload_n 3, 1) := by decide +kernel
theorem dL_law_503 : decode cL_law 503 = .ok (.invokestatic 99, 3) := by decide +kernel
theorem dL_law_506 : decode cL_law 506 = .ok (.istore 5, 2) := by decide +kernel
theorem dL_law_508 : decode cL_law 508 = .ok (.aload_n 2, 1) := by decide +kernel
theorem dL_law_509 : decode cL_law 509 = .ok (.aload_n 0, 1) := by decide +kernel
theorem dL_law_510 : decode cL_law 510 = .ok (.iload 4, 2) := by decide +kernel
theorem dL_law_512 : decode cL_law 512 = .ok (.iconst 1, 1) := by decide +kernel
theorem dL_law_513 : decode cL_law 513 = .ok (.iadd, 1) := by decide +kernel
theorem dL_law_514 : decode cL_law 514 = .ok (.iaload, 1) := by decide +kernel
theorem dL_law_515 : decode cL_law 515 = .ok (.invokevirtual 101, 3) := by decide +kernel
theorem dL_law_518 : decode cL_law 518 = .ok (.istore 6, 2) := by decide +kernel
theorem dL_law_520 : decode cL_law 520 = .ok (.aload_n 2, 1) := by decide +kernel
theorem dL_law_521 : decode cL_law 521 = .ok (.invokevirtual 69, 3) := by decide +kernel
theorem dL_law_524 : decode cL_law 524 = .ok (.iload 5, 2) := by decide +kernel
theorem dL_law_526 : decode cL_law 526 = .ok (.if_icmp .eq 5, 3) := by decide +kernel
theorem dL_law_529 : decode cL_law 529 = .ok (.iconst 0, 1) := by decide +kernel
theorem dL_law_530 : decode cL_law 530 = .ok (.ireturn, 1) := by decide +kernel
theorem dL_law_531 : decode cL_law 531 = .ok (.iload 5, 2) := by decide +kernel
theorem dL_law_533 : decode cL_law 533 = .ok (.ifCond .ne 15, 3) := by decide +kernel
theorem dL_law_536 : decode cL_law 536 = .ok (.aload_n 3, 1) := by decide +kernel
theorem dL_law_537 : decode cL_law 537 = .ok (.iconst 0, 1) := by decide +kernel
theorem dL_law_538 : decode cL_law 538 = .ok (.laload, 1) := by decide +kernel
theorem dL_law_539 : decode cL_law 539 = .ok (.iload 6, 2) := by decide +kernel
theorem dL_law_541 : decode cL_law 541 = .ok (.i2l, 1) := by decide +kernel
theorem dL_law_542 : decode cL_law 542 = .ok (.lcmp, 1) := by decide +kernel
theorem dL_law_543 : decode cL_law 543 = .ok (.ifCond .eq 5, 3) := by decide +kernel
theorem dL_law_546 : decode cL_law 546 = .ok (.iconst 0, 1) := by decide +kernel
theorem dL_law_547 : decode cL_law 547 = .ok (.ireturn, 1) := by decide +kernel
theorem dL_law_548 : decode cL_law 548 = .ok (.goto 384, 3) := by decide +kernel
theorem dL_law_551 : decode cL_law 551 = .ok (.aload_n 1, 1) := by decide +kernel
theorem dL_law_552 : decode cL_law 552 = .ok (.invokevirtual 102, 3) := by decide +kernel
theorem dL_law_555 : decode cL_law 555 = .ok (.aload_n 2, 1) := by decide +kernel
theorem dL_law_556 : decode cL_law 556 = .ok (.invokevirtual 105, 3) := by decide +kernel
theorem dL_law_559 : decode cL_law 559 = .ok (.if_icmp .eq 373, 3) := by decide +kernel
theorem dL_law_562 : decode cL_law 562 = .ok (.iconst 0, 1) := by decide +kernel
theorem dL_law_563 : decode cL_law 563 = .ok (.ireturn, 1) := by decide +kernel
theorem dL_law_564 : decode cL_law 564 = .ok (.aload_n 1, 1) := by decide +kernel
theorem dL_law_565 : decode cL_law 565 = .ok (.invokevirtual 106, 3) := by decide +kernel
theorem dL_law_568 : decode cL_law 568 = .ok (.aload_n 2, 1) := by decide +kernel
theorem dL_law_569 : decode cL_law 569 = .ok (.invokevirtual 109, 3) := by decide +kernel
theorem dL_law_572 : decode cL_law 572 = .ok (.if_icmp .eq 360, 3) := by decide +kernel
theorem dL_law_575 : decode cL_law 575 = .ok (.iconst 0, 1) := by decide +kernel
theorem dL_law_576 : decode cL_law 576 = .ok (.ireturn, 1) := by decide +kernel
theorem dL_law_577 : decode cL_law 577 = .ok (.aload_n 1, 1) := by decide +kernel
theorem dL_law_578 : decode cL_law 578 = .ok (.invokevirtual 110, 3) := by decide +kernel
theorem dL_law_581 : decode cL_law 581 = .ok (.aload_n 2, 1) := by decide +kernel
theorem dL_law_582 : decode cL_law 582 = .ok (.invokevirtual 113, 3) := by decide +kernel
theorem dL_law_585 : decode cL_law 585 = .ok (.if_icmp .eq 347, 3) := by decide +kernel
theorem dL_law_588 : decode cL_law 588 = .ok (.iconst 0, 1) := by decide +kernel
theorem dL_law_589 : decode cL_law 589 = .ok (.ireturn, 1) := by decide +kernel
theorem dL_law_590 : decode cL_law 590 = .ok (.aload_n 1, 1) := by decide +kernel
theorem dL_law_591 : decode cL_law 591 = .ok (.aload_n 0, 1) := by decide +kernel
theorem dL_law_592 : decode cL_law 592 = .ok (.iload 4, 2) := by decide +kernel
theorem dL_law_594 : decode cL_law 594 = .ok (.iconst 1, 1) := by decide +kernel
theorem dL_law_595 : decode cL_law 595 = .ok (.iadd, 1) := by decide +kernel
theorem dL_law_596 : decode cL_law 596 = .ok (.iaload, 1) := by decide +kernel
theorem dL_law_597 : decode cL_law 597 = .ok (.aload_n 3, 1) := by decide +kernel
theorem dL_law_598 : decode cL_law 598 = .ok (.invokestatic 114, 3) := by decide +kernel
theorem dL_law_601 : decode cL_law 601 = .ok (.istore 5, 2) := by decide +kernel
theorem dL_law_603 : decode cL_law 603 = .ok (.aload_n 2, 1) := by decide +kernel
theorem dL_law_604 : decode cL_law 604 = .ok (.aload_n 0, 1) := by decide +kernel
theorem dL_law_605 : decode cL_law 605 = .ok (.iload 4, 2) := by decide +kernel
theorem dL_law_607 : decode cL_law 607 = .ok (.iconst 1, 1) := by decide +kernel
theorem dL_law_608 : decode cL_law 608 = .ok (.iadd, 1) := by decide +kernel
theorem dL_law_609 : decode cL_law 609 = .ok (.iaload, 1) := by decide +kernel
theorem dL_law_610 : decode cL_law 610 = .ok (.invokevirtual 116, 3) := by decide +kernel
theorem dL_law_613 : decode cL_law 613 = .ok (.istore 6, 2) := by decide +kernel
theorem dL_law_615 : decode cL_law 615 = .ok (.aload_n 2, 1) := by decide +kernel
theorem dL_law_616 : decode cL_law 616 = .ok (.invokevirtual 69, 3) := by decide +kernel
theorem dL_law_619 : decode cL_law 619 = .ok (.iload 5, 2) := by decide +kernel
theorem dL_law_621 : decode cL_law 621 = .ok (.if_icmp .eq 5, 3) := by decide +kernel
theorem dL_law_624 : decode cL_law 624 = .ok (.iconst 0, 1) := by decide +kernel
theorem dL_law_625 : decode cL_law 625 = .ok (.ireturn, 1) := by decide +kernel
theorem dL_law_626 : decode cL_law 626 = .ok (.iload 5, 2) := by decide +kernel
theorem dL_law_628 : decode cL_law 628 = .ok (.ifCond .ne 15, 3) := by decide +kernel
theorem dL_law_631 : decode cL_law 631 = .ok (.aload_n 3, 1) := by decide +kernel
theorem dL_law_632 : decode cL_law 632 = .ok (.iconst 0, 1) := by decide +kernel
theorem dL_law_633 : decode cL_law 633 = .ok (.laload, 1) := by decide +kernel
theorem dL_law_634 : decode cL_law 634 = .ok (.iload 6, 2) := by decide +kernel
theorem dL_law_636 : decode cL_law 636 = .ok (.i2l, 1) := by decide +kernel
theorem dL_law_637 : decode cL_law 637 = .ok (.lcmp, 1) := by decide +kernel
theorem dL_law_638 : decode cL_law 638 = .ok (.ifCond .eq 5, 3) := by decide +kernel
theorem dL_law_641 : decode cL_law 641 = .ok (.iconst 0, 1) := by decide +kernel
theorem dL_law_642 : decode cL_law 642 = .ok (.ireturn, 1) := by decide +kernel
theorem dL_law_643 : decode cL_law 643 = .ok (.goto 289, 3) := by decide +kernel
theorem dL_law_646 : decode cL_law 646 = .ok (.aload_n 1, 1) := by decide +kernel
theorem dL_law_647 : decode cL_law 647 = .ok (.aload_n 0, 1) := by decide +kernel
theorem dL_law_648 : decode cL_law 648 = .ok (.iload 4, 2) := by decide +kernel
theorem dL_law_650 : decode cL_law 650 = .ok (.iconst 1, 1) := by decide +kernel
theorem dL_law_651 : decode cL_law 651 = .ok (.iadd, 1) := by decide +kernel
theorem dL_law_652 : decode cL_law 652 = .ok (.iaload, 1) := by decide +kernel
theorem dL_law_653 : decode cL_law 653 = .ok (.aload_n 3, 1) := by decide +kernel
theorem dL_law_654 : decode cL_law 654 = .ok (.invokestatic 117, 3) := by decide +kernel
theorem dL_law_657 : decode cL_law 657 = .ok (.istore 5, 2) := by decide +kernel
theorem dL_law_659 : decode cL_law 659 = .ok (.aload_n 2, 1) := by decide +kernel
theorem dL_law_660 : decode cL_law 660 = .ok (.aload_n 0, 1) := by decide +kernel
theorem dL_law_661 : decode cL_law 661 = .ok (.iload 4, 2) := by decide +kernel
theorem dL_law_663 : decode cL_law 663 = .ok (.iconst 1, 1) := by decide +kernel
theorem dL_law_664 : decode cL_law 664 = .ok (.iadd, 1) := by decide +kernel
theorem dL_law_665 : decode cL_law 665 = .ok (.iaload, 1) := by decide +kernel
theorem dL_law_666 : decode cL_law 666 = .ok (.invokevirtual 119, 3) := by decide +kernel
theorem dL_law_669 : decode cL_law 669 = .ok (.istore 6, 2) := by decide +kernel
theorem dL_law_671 : decode cL_law 671 = .ok (.aload_n 2, 1) := by decide +kernel
theorem dL_law_672 : decode cL_law 672 = .ok (.invokevirtual 69, 3) := by decide +kernel
theorem dL_law_675 : decode cL_law 675 = .ok (.iload 5, 2) := by decide +kernel
theorem dL_law_677 : decode cL_law 677 = .ok (.if_icmp .eq 5, 3) := by decide +kernel
theorem dL_law_680 : decode cL_law 680 = .ok (.iconst 0, 1) := by decide +kernel
theorem dL_law_681 : decode cL_law 681 = .ok (.ireturn, 1) := by decide +kernel
theorem dL_law_682 : decode cL_law 682 = .ok (.iload 5, 2) := by decide +kernel
theorem dL_law_684 : decode cL_law 684 = .ok (.ifCond .ne 15, 3) := by decide +kernel
theorem dL_law_687 : decode cL_law 687 = .ok (.aload_n 3, 1) := by decide +kernel
theorem dL_law_688 : decode cL_law 688 = .ok (.iconst 0, 1) := by decide +kernel
theorem dL_law_689 : decode cL_law 689 = .ok (.laload, 1) := by decide +kernel
theorem dL_law_690 : decode cL_law 690 = .ok (.iload 6, 2) := by decide +kernel
theorem dL_law_692 : decode cL_law 692 = .ok (.i2l, 1) := by decide +kernel
theorem dL_law_693 : decode cL_law 693 = .ok (.lcmp, 1) := by decide +kernel
theorem dL_law_694 : decode cL_law 694 = .ok (.ifCond .eq 5, 3) := by decide +kernel
theorem dL_law_697 : decode cL_law 697 = .ok (.iconst 0, 1) := by decide +kernel
theorem dL_law_698 : decode cL_law 698 = .ok (.ireturn, 1) := by decide +kernel
theorem dL_law_699 : decode cL_law 699 = .ok (.goto 233, 3) := by decide +kernel
theorem dL_law_702 : decode cL_law 702 = .ok (.aload_n 1, 1) := by decide +kernel
theorem dL_law_703 : decode cL_law 703 = .ok (.invokevirtual 120, 3) := by decide +kernel
theorem dL_law_706 : decode cL_law 706 = .ok (.aload_n 2, 1) := by decide +kernel
theorem dL_law_707 : decode cL_law 707 = .ok (.invokevirtual 123, 3) := by decide +kernel
theorem dL_law_710 : decode cL_law 710 = .ok (.if_icmp .eq 222, 3) := by decide +kernel
theorem dL_law_713 : decode cL_law 713 = .ok (.iconst 0, 1) := by decide +kernel
theorem dL_law_714 : decode cL_law 714 = .ok (.ireturn, 1) := by decide +kernel
theorem dL_law_715 : decode cL_law 715 = .ok (.aload_n 1, 1) := by decide +kernel
theorem dL_law_716 : decode cL_law 716 = .ok (.aload_n 0, 1) := by decide +kernel
theorem dL_law_717 : decode cL_law 717 = .ok (.iload 4, 2) := by decide +kernel
theorem dL_law_719 : decode cL_law 719 = .ok (.iconst 1, 1) := by decide +kernel
theorem dL_law_720 : decode cL_law 720 = .ok (.iadd, 1) := by decide +kernel
theorem dL_law_721 : decode cL_law 721 = .ok (.iaload, 1) := by decide +kernel
theorem dL_law_722 : decode cL_law 722 = .ok (.aload_n 0, 1) := by decide +kernel
theorem dL_law_723 : decode cL_law 723 = .ok (.iload 4, 2) := by decide +kernel
theorem dL_law_725 : decode cL_law 725 = .ok (.iconst 2, 1) := by decide +kernel
theorem dL_law_726 : decode cL_law 726 = .ok (.iadd, 1) := by decide +kernel
theorem dL_law_727 : decode cL_law 727 = .ok (.iaload, 1) := by decide +kernel
theorem dL_law_728 : decode cL_law 728 = .ok (.aload_n 3, 1) := by decide +kernel
theorem dL_law_729 : decode cL_law 729 = .ok (.invokestatic 124, 3) := by decide +kernel
theorem dL_law_732 : decode cL_law 732 = .ok (.istore 5, 2) := by decide +kernel
theorem dL_law_734 : decode cL_law 734 = .ok (.aload_n 2, 1) := by decide +kernel
theorem dL_law_735 : decode cL_law 735 = .ok (.aload_n 0, 1) := by decide +kernel
theorem dL_law_736 : decode cL_law 736 = .ok (.iload 4, 2) := by decide +kernel
theorem dL_law_738 : decode cL_law 738 = .ok (.iconst 1, 1) := by decide +kernel
theorem dL_law_739 : decode cL_law 739 = .ok (.iadd, 1) := by decide +kernel
theorem dL_law_740 : decode cL_law 740 = .ok (.iaload, 1) := by decide +kernel
theorem dL_law_741 : decode cL_law 741 = .ok (.aload_n 0, 1) := by decide +kernel
theorem dL_law_742 : decode cL_law 742 = .ok (.iload 4, 2) := by decide +kernel
theorem dL_law_744 : decode cL_law 744 = .ok (.iconst 2, 1) := by decide +kernel
theorem dL_law_745 : decode cL_law 745 = .ok (.iadd, 1) := by decide +kernel
theorem dL_law_746 : decode cL_law 746 = .ok (.iaload, 1) := by decide +kernel
theorem dL_law_747 : decode cL_law 747 = .ok (.invokevirtual 126, 3) := by decide +kernel
theorem dL_law_750 : decode cL_law 750 = .ok (.istore 6, 2) := by decide +kernel
theorem dL_law_752 : decode cL_law 752 = .ok (.aload_n 2, 1) := by decide +kernel
theorem dL_law_753 : decode cL_law 753 = .ok (.invokevirtual 69, 3) := by decide +kernel
theorem dL_law_756 : decode cL_law 756 = .ok (.iload 5, 2) := by decide +kernel
theorem dL_law_758 : decode cL_law 758 = .ok (.if_icmp .eq 5, 3) := by decide +kernel
theorem dL_law_761 : decode cL_law 761 = .ok (.iconst 0, 1) := by decide +kernel
theorem dL_law_762 : decode cL_law 762 = .ok (.ireturn, 1) := by decide +kernel
theorem dL_law_763 : decode cL_law 763 = .ok (.iload 5, 2) := by decide +kernel
theorem dL_law_765 : decode cL_law 765 = .ok (.ifCond .ne 15, 3) := by decide +kernel
theorem dL_law_768 : decode cL_law 768 = .ok (.aload_n 3, 1) := by decide +kernel
theorem dL_law_769 : decode cL_law 769 = .ok (.iconst 0, 1) := by decide +kernel
theorem dL_law_770 : decode cL_law 770 = .ok (.laload, 1) := by decide +kernel
theorem dL_law_771 : decode cL_law 771 = .ok (.iload 6, 2) := by decide +kernel
theorem dL_law_773 : decode cL_law 773 = .ok (.i2l, 1) := by decide +kernel
theorem dL_law_774 : decode cL_law 774 = .ok (.lcmp, 1) := by decide +kernel
theorem dL_law_775 : decode cL_law 775 = .ok (.ifCond .eq 5, 3) := by decide +kernel
theorem dL_law_778 : decode cL_law 778 = .ok (.iconst 0, 1) := by decide +kernel
theorem dL_law_779 : decode cL_law 779 = .ok (.ireturn, 1) := by decide +kernel
theorem dL_law_780 : decode cL_law 780 = .ok (.goto 152, 3) := by decide +kernel
theorem dL_law_783 : decode cL_law 783 = .ok (.aload_n 1, 1) := by decide +kernel
theorem dL_law_784 : decode cL_law 784 = .ok (.aload_n 0, 1) := by decide +kernel
theorem dL_law_785 : decode cL_law 785 = .ok (.iload 4, 2) := by decide +kernel
theorem dL_law_787 : decode cL_law 787 = .ok (.iconst 1, 1) := by decide +kernel
theorem dL_law_788 : decode cL_law 788 = .ok (.iadd, 1) := by decide +kernel
theorem dL_law_789 : decode cL_law 789 = .ok (.iaload, 1) := by decide +kernel
theorem dL_law_790 : decode cL_law 790 = .ok (.aload_n 0, 1) := by decide +kernel
theorem dL_law_791 : decode cL_law 791 = .ok (.iload 4, 2) := by decide +kernel
theorem dL_law_793 : decode cL_law 793 = .ok (.iconst 2, 1) := by decide +kernel
theorem dL_law_794 : decode cL_law 794 = .ok (.iadd, 1) := by decide +kernel
theorem dL_law_795 : decode cL_law 795 = .ok (.iaload, 1) := by decide +kernel
theorem dL_law_796 : decode cL_law 796 = .ok (.aload_n 3, 1) := by decide +kernel
theorem dL_law_797 : decode cL_law 797 = .ok (.invokestatic 127, 3) := by decide +kernel
theorem dL_law_800 : decode cL_law 800 = .ok (.istore 5, 2) := by decide +kernel
theorem dL_law_802 : decode cL_law 802 = .ok (.aload_n 2, 1) := by decide +kernel
theorem dL_law_803 : decode cL_law 803 = .ok (.aload_n 0, 1) := by decide +kernel
theorem dL_law_804 : decode cL_law 804 = .ok (.iload 4, 2) := by decide +kernel
theorem dL_law_806 : decode cL_law 806 = .ok (.iconst 1, 1) := by decide +kernel
theorem dL_law_807 : decode cL_law 807 = .ok (.iadd, 1) := by decide +kernel
theorem dL_law_808 : decode cL_law 808 = .ok (.iaload, 1) := by decide +kernel
theorem dL_law_809 : decode cL_law 809 = .ok (.aload_n 0, 1) := by decide +kernel
theorem dL_law_810 : decode cL_law 810 = .ok (.iload 4, 2) := by decide +kernel
theorem dL_law_812 : decode cL_law 812 = .ok (.iconst 2, 1) := by decide +kernel
theorem dL_law_813 : decode cL_law 813 = .ok (.iadd, 1) := by decide +kernel
theorem dL_law_814 : decode cL_law 814 = .ok (.iaload, 1) := by decide +kernel
theorem dL_law_815 : decode cL_law 815 = .ok (.invokevirtual 129, 3) := by decide +kernel
theorem dL_law_818 : decode cL_law 818 = .ok (.istore 6, 2) := by decide +kernel
theorem dL_law_820 : decode cL_law 820 = .ok (.aload_n 2, 1) := by decide +kernel
theorem dL_law_821 : decode cL_law 821 = .ok (.invokevirtual 69, 3) := by decide +kernel
theorem dL_law_824 : decode cL_law 824 = .ok (.iload 5, 2) := by decide +kernel
theorem dL_law_826 : decode cL_law 826 = .ok (.if_icmp .eq 5, 3) := by decide +kernel
theorem dL_law_829 : decode cL_law 829 = .ok (.iconst 0, 1) := by decide +kernel
theorem dL_law_830 : decode cL_law 830 = .ok (.ireturn, 1) := by decide +kernel
theorem dL_law_831 : decode cL_law 831 = .ok (.iload 5, 2) := by decide +kernel
theorem dL_law_833 : decode cL_law 833 = .ok (.ifCond .ne 15, 3) := by decide +kernel
theorem dL_law_836 : decode cL_law 836 = .ok (.aload_n 3, 1) := by decide +kernel
theorem dL_law_837 : decode cL_law 837 = .ok (.iconst 0, 1) := by decide +kernel
theorem dL_law_838 : decode cL_law 838 = .ok (.laload, 1) := by decide +kernel
theorem dL_law_839 : decode cL_law 839 = .ok (.iload 6, 2) := by decide +kernel
theorem dL_law_841 : decode cL_law 841 = .ok (.i2l, 1) := by decide +kernel
theorem dL_law_842 : decode cL_law 842 = .ok (.lcmp, 1) := by decide +kernel
theorem dL_law_843 : decode cL_law 843 = .ok (.ifCond .eq 5, 3) := by decide +kernel
theorem dL_law_846 : decode cL_law 846 = .ok (.iconst 0, 1) := by decide +kernel
theorem dL_law_847 : decode cL_law 847 = .ok (.ireturn, 1) := by decide +kernel
theorem dL_law_848 : decode cL_law 848 = .ok (.goto 84, 3) := by decide +kernel
theorem dL_law_851 : decode cL_law 851 = .ok (.aload_n 1, 1) := by decide +kernel
theorem dL_law_852 : decode cL_law 852 = .ok (.aload_n 0, 1) := by decide +kernel
theorem dL_law_853 : decode cL_law 853 = .ok (.iload 4, 2) := by decide +kernel
theorem dL_law_855 : decode cL_law 855 = .ok (.iconst 1, 1) := by decide +kernel
theorem dL_law_856 : decode cL_law 856 = .ok (.iadd, 1) := by decide +kernel
theorem dL_law_857 : decode cL_law 857 = .ok (.iaload, 1) := by decide +kernel
theorem dL_law_858 : decode cL_law 858 = .ok (.aload_n 0, 1) := by decide +kernel
theorem dL_law_859 : decode cL_law 859 = .ok (.iload 4, 2) := by decide +kernel
theorem dL_law_861 : decode cL_law 861 = .ok (.iconst 2, 1) := by decide +kernel
theorem dL_law_862 : decode cL_law 862 = .ok (.iadd, 1) := by decide +kernel
theorem dL_law_863 : decode cL_law 863 = .ok (.iaload, 1) := by decide +kernel
theorem dL_law_864 : decode cL_law 864 = .ok (.aload_n 3, 1) := by decide +kernel
theorem dL_law_865 : decode cL_law 865 = .ok (.invokestatic 130, 3) := by decide +kernel
theorem dL_law_868 : decode cL_law 868 = .ok (.istore 5, 2) := by decide +kernel
theorem dL_law_870 : decode cL_law 870 = .ok (.aload_n 2, 1) := by decide +kernel
theorem dL_law_871 : decode cL_law 871 = .ok (.aload_n 0, 1) := by decide +kernel
theorem dL_law_872 : decode cL_law 872 = .ok (.iload 4, 2) := by decide +kernel
theorem dL_law_874 : decode cL_law 874 = .ok (.iconst 1, 1) := by decide +kernel
theorem dL_law_875 : decode cL_law 875 = .ok (.iadd, 1) := by decide +kernel
theorem dL_law_876 : decode cL_law 876 = .ok (.iaload, 1) := by decide +kernel
theorem dL_law_877 : decode cL_law 877 = .ok (.aload_n 0, 1) := by decide +kernel
theorem dL_law_878 : decode cL_law 878 = .ok (.iload 4, 2) := by decide +kernel
theorem dL_law_880 : decode cL_law 880 = .ok (.iconst 2, 1) := by decide +kernel
theorem dL_law_881 : decode cL_law 881 = .ok (.iadd, 1) := by decide +kernel
theorem dL_law_882 : decode cL_law 882 = .ok (.iaload, 1) := by decide +kernel
theorem dL_law_883 : decode cL_law 883 = .ok (.invokevirtual 132, 3) := by decide +kernel
theorem dL_law_886 : decode cL_law 886 = .ok (.istore 6, 2) := by decide +kernel
theorem dL_law_888 : decode cL_law 888 = .ok (.aload_n 2, 1) := by decide +kernel
theorem dL_law_889 : decode cL_law 889 = .ok (.invokevirtual 69, 3) := by decide +kernel
theorem dL_law_892 : decode cL_law 892 = .ok (.iload 5, 2) := by decide +kernel
theorem dL_law_894 : decode cL_law 894 = .ok (.if_icmp .eq 5, 3) := by decide +kernel
theorem dL_law_897 : decode cL_law 897 = .ok (.iconst 0, 1) := by decide +kernel
theorem dL_law_898 : decode cL_law 898 = .ok (.ireturn, 1) := by decide +kernel
theorem dL_law_899 : decode cL_law 899 = .ok (.iload 5, 2) := by decide +kernel
theorem dL_law_901 : decode cL_law 901 = .ok (.ifCond .ne 15, 3) := by decide +kernel
theorem dL_law_904 : decode cL_law 904 = .ok (.aload_n 3, 1) := by decide +kernel
theorem dL_law_905 : decode cL_law 905 = .ok (.iconst 0, 1) := by decide +kernel
theorem dL_law_906 : decode cL_law 906 = .ok (.laload, 1) := by decide +kernel
theorem dL_law_907 : decode cL_law 907 = .ok (.iload 6, 2) := by decide +kernel
theorem dL_law_909 : decode cL_law 909 = .ok (.i2l, 1) := by decide +kernel
theorem dL_law_910 : decode cL_law 910 = .ok (.lcmp, 1) := by decide +kernel
theorem dL_law_911 : decode cL_law 911 = .ok (.ifCond .eq 5, 3) := by decide +kernel
theorem dL_law_914 : decode cL_law 914 = .ok (.iconst 0, 1) := by decide +kernel
theorem dL_law_915 : decode cL_law 915 = .ok (.ireturn, 1) := by decide +kernel
theorem dL_law_916 : decode cL_law 916 = .ok (.goto 16, 3) := by decide +kernel
theorem dL_law_919 : decode cL_law 919 = .ok (.aload_n 1, 1) := by decide +kernel
theorem dL_law_920 : decode cL_law 920 = .ok (.invokevirtual 133, 3) := by decide +kernel
theorem dL_law_923 : decode cL_law 923 = .ok (.aload_n 2, 1) := by decide +kernel
theorem dL_law_924 : decode cL_law 924 = .ok (.invokevirtual 136, 3) := by decide +kernel
theorem dL_law_927 : decode cL_law 927 = .ok (.if_icmp .eq 5, 3) := by decide +kernel
theorem dL_law_930 : decode cL_law 930 = .ok (.iconst 0, 1) := by decide +kernel
theorem dL_law_931 : decode cL_law 931 = .ok (.ireturn, 1) := by decide +kernel
theorem dL_law_932 : decode cL_law 932 = .ok (.iinc 4 3, 3) := by decide +kernel
theorem dL_law_935 : decode cL_law 935 = .ok (.goto (-882), 3) := by decide +kernel
theorem dL_law_938 : decode cL_law 938 = .ok (.iconst 1, 1) := by decide +kernel
theorem dL_law_939 : decode cL_law 939 = .ok (.ireturn, 1) := by decide +kernel
end
section
/-- the good words of the tables: every method's words, behind its own code -/
def GW : List Cond := lw_tbl.filter goodWord
theorem mem_gw {w : Cond} (k : Nat) (h : tables_1[k]? = some w) (g : goodWord w = true) : w ∈ GW := List.mem_filter.mpr ⟨List.mem_append_right _ (List.mem_of_getElem? h), g⟩
theorem mem_gs {w : Cond} (k : Nat) (h : (k2_sels lw_privs)[k]? = some w) (g : goodWord w = true) : w ∈ GW := List.mem_filter.mpr ⟨List.mem_append_left _ (List.mem_of_getElem? h), g⟩
theorem gw_lw {args : Array Value} {s : State} (h : ∀ w ∈ lw_tbl, w.before args s = true) : ∀ w ∈ GW, w.before args s = true := fun w hw => h w (List.mem_filter.mp hw).1
theorem gw_good {ws : List Cond} (h : ∀ w ∈ ws, w ∈ GW) : GoodIn GW ws := fun w hw => ⟨h w hw, good_of_word (List.mem_filter.mp (h w hw)).2⟩
theorem gw_self : GoodIn GW GW := gw_good fun _ h => h
theorem gw_cons {w : Cond} {ws : List Cond} (h : w ∈ GW) (t : ∀ v ∈ ws, v ∈ GW) : ∀ v ∈ w :: ws, v ∈ GW := fun v hv => (List.mem_cons.mp hv).elim (fun e => e ▸ h) (t v)
theorem gw_nil : ∀ v ∈ ([] : List Cond), v ∈ GW := fun _ h => nomatch h
theorem q_0 : Cond.initialized RL ∈ GW := mem_gw 0 (by decide +kernel) (by decide +kernel)
theorem q_1 : Cond.initialized RX2 ∈ GW := mem_gw 1 (by decide +kernel) (by decide +kernel)
theorem q_2 : Cond.initialized RX1 ∈ GW := mem_gw 2 (by decide +kernel) (by decide +kernel)
theorem q_3 : Cond.initialized RX0 ∈ GW := mem_gw 3 (by decide +kernel) (by decide +kernel)
theorem q_4 : Cond.initialized "java/lang/Math" ∈ GW := mem_gw 4 (by decide +kernel) (by decide +kernel)
theorem q_5 : Cond.initialized "java/util/Arrays" ∈ GW := mem_gw 5 (by decide +kernel) (by decide +kernel)
theorem q_6 : Cond.initialized RX3 ∈ GW := mem_gw 6 (by decide +kernel) (by decide +kernel)
theorem q_7 : Cond.initialized "java/lang/Throwable" ∈ GW := mem_gw 7 (by decide +kernel) (by decide +kernel)
theorem q_8 : Cond.initialized "java/lang/Exception" ∈ GW := mem_gw 8 (by decide +kernel) (by decide +kernel)
theorem q_9 : Cond.initialized "java/lang/RuntimeException" ∈ GW := mem_gw 9 (by decide +kernel) (by decide +kernel)
theorem q_10 : Cond.initialized "java/lang/IndexOutOfBoundsException" ∈ GW := mem_gw 10 (by decide +kernel) (by decide +kernel)
theorem q_11 : Cond.initialized "java/lang/IllegalStateException" ∈ GW := mem_gw 11 (by decide +kernel) (by decide +kernel)
theorem q_12 : Cond.initialized "java/lang/IllegalArgumentException" ∈ GW := mem_gw 12 (by decide +kernel) (by decide +kernel)
theorem q_13 : Cond.initialized "java/util/NoSuchElementException" ∈ GW := mem_gw 13 (by decide +kernel) (by decide +kernel)
theorem q_14 : Cond.classLink RL 8 "Tetherline" ∈ GW := mem_gw 14 (by decide +kernel) (by decide +kernel)
theorem q_15 : Cond.instantiable RX2 7 ∈ GW := mem_gw 15 (by decide +kernel) (by decide +kernel)
theorem q_16 : Cond.methodLink RL 59 yX2_init ∈ GW := mem_gw 16 (by decide +kernel) (by decide +kernel)
theorem q_17 : Cond.instanceMethod yX2_init ∈ GW := mem_gw 17 (by decide +kernel) (by decide +kernel)
theorem q_18 : Cond.code yX2_init cX2_init 4 none ∈ GW := mem_gw 18 (by decide +kernel) (by decide +kernel)
theorem q_19 : Cond.methodLink RX2 3 ⟨"java/lang/Object", "<init>", "()V"⟩ ∈ GW := mem_gw 19 (by decide +kernel) (by decide +kernel)
theorem q_20 : Cond.instanceMethod ⟨"java/lang/Object", "<init>", "()V"⟩ ∈ GW := mem_gw 20 (by decide +kernel) (by decide +kernel)
theorem q_21 : Cond.code ⟨"java/lang/Object", "<init>", "()V"⟩ object_method_1_code 1 none ∈ GW := mem_gw 21 (by decide +kernel) (by decide +kernel)
theorem q_22 : Cond.classLink RX2 9 "Tetherline$Spread" ∈ GW := mem_gw 22 (by decide +kernel) (by decide +kernel)
theorem q_23 : Cond.instantiable RX1 3 ∈ GW := mem_gw 23 (by decide +kernel) (by decide +kernel)
theorem q_25 : Cond.instanceMethod yX1_init ∈ GW := mem_gw 25 (by decide +kernel) (by decide +kernel)
theorem q_26 : Cond.code yX1_init cX1_init 1 none ∈ GW := mem_gw 26 (by decide +kernel) (by decide +kernel)
theorem q_27 : Cond.methodLink RX1 3 ⟨"java/lang/Object", "<init>", "()V"⟩ ∈ GW := mem_gw 27 (by decide +kernel) (by decide +kernel)
theorem q_28 : Cond.fieldLink RX1 9 "Tetherline$Spread" "distances" "[I" ∈ GW := mem_gw 28 (by decide +kernel) (by decide +kernel)
theorem q_29 : Cond.fieldLink RX1 15 "Tetherline$Spread" "reached" "[I" ∈ GW := mem_gw 29 (by decide +kernel) (by decide +kernel)
theorem q_30 : Cond.fieldLink RX1 24 "Tetherline$Spread" "count" "I" ∈ GW := mem_gw 30 (by decide +kernel) (by decide +kernel)
theorem q_31 : Cond.laysFinal RX1 "Tetherline$Spread" "distances" "[I" ∈ GW := mem_gw 31 (by decide +kernel) (by decide +kernel)
theorem q_33 : Cond.laysFinal RX1 "Tetherline$Spread" "reached" "[I" ∈ GW := mem_gw 33 (by decide +kernel) (by decide +kernel)
theorem q_35 : Cond.lays RX1 "Tetherline$Spread" "count" "I" ∈ GW := mem_gw 35 (by decide +kernel) (by decide +kernel)
theorem q_38 : Cond.arrayClass .int ∈ GW := mem_gw 38 (by decide +kernel) (by decide +kernel)
theorem q_39 : Cond.classLink RX2 19 "Tetherline$Floor" ∈ GW := mem_gw 39 (by decide +kernel) (by decide +kernel)
theorem q_40 : Cond.instantiable RX0 4 ∈ GW := mem_gw 40 (by decide +kernel) (by decide +kernel)
theorem q_41 : Cond.methodLink RX2 21 yX2_between ∈ GW := mem_gw 41 (by decide +kernel) (by decide +kernel)
theorem q_42 : Cond.static yX2_between ∈ GW := mem_gw 42 (by decide +kernel) (by decide +kernel)
theorem q_43 : Cond.code yX2_between cX2_between 3 (some .int) ∈ GW := mem_gw 43 (by decide +kernel) (by decide +kernel)
theorem q_44 : Cond.methodLink RX2 106 yJ9_min_7cf53 ∈ GW := mem_gw 44 (by decide +kernel) (by decide +kernel)
theorem q_45 : Cond.static yJ9_min_7cf53 ∈ GW := mem_gw 45 (by decide +kernel) (by decide +kernel)
theorem q_46 : Cond.code yJ9_min_7cf53 cJ9_min_7cf53 2 (some .int) ∈ GW := mem_gw 46 (by decide +kernel) (by decide +kernel)
theorem q_47 : Cond.methodLink RX2 157 yJ9_max_7cf53 ∈ GW := mem_gw 47 (by decide +kernel) (by decide +kernel)
theorem q_48 : Cond.static yJ9_max_7cf53 ∈ GW := mem_gw 48 (by decide +kernel) (by decide +kernel)
theorem q_49 : Cond.code yJ9_max_7cf53 cJ9_max_7cf53 2 (some .int) ∈ GW := mem_gw 49 (by decide +kernel) (by decide +kernel)
theorem q_50 : Cond.methodLink RX2 25 yX0_init ∈ GW := mem_gw 50 (by decide +kernel) (by decide +kernel)
theorem q_51 : Cond.instanceMethod yX0_init ∈ GW := mem_gw 51 (by decide +kernel) (by decide +kernel)
theorem q_52 : Cond.code yX0_init cX0_init 3 none ∈ GW := mem_gw 52 (by decide +kernel) (by decide +kernel)
theorem q_53 : Cond.methodLink RX0 3 ⟨"java/lang/Object", "<init>", "()V"⟩ ∈ GW := mem_gw 53 (by decide +kernel) (by decide +kernel)
theorem q_54 : Cond.methodLink RX0 22 yJ7_fill_53178 ∈ GW := mem_gw 54 (by decide +kernel) (by decide +kernel)
theorem q_55 : Cond.static yJ7_fill_53178 ∈ GW := mem_gw 55 (by decide +kernel) (by decide +kernel)
theorem q_56 : Cond.code yJ7_fill_53178 cJ7_fill_53178 4 none ∈ GW := mem_gw 56 (by decide +kernel) (by decide +kernel)
theorem q_57 : Cond.fieldLink RX0 15 "Tetherline$Floor" "columns" "I" ∈ GW := mem_gw 57 (by decide +kernel) (by decide +kernel)
theorem q_58 : Cond.fieldLink RX0 19 "Tetherline$Floor" "rows" "I" ∈ GW := mem_gw 58 (by decide +kernel) (by decide +kernel)
theorem q_59 : Cond.fieldLink RX0 9 "Tetherline$Floor" "pillarNumbers" "[I" ∈ GW := mem_gw 59 (by decide +kernel) (by decide +kernel)
theorem q_60 : Cond.fieldLink RX0 28 "Tetherline$Floor" "pillars" "I" ∈ GW := mem_gw 60 (by decide +kernel) (by decide +kernel)
theorem q_61 : Cond.laysFinal RX0 "Tetherline$Floor" "columns" "I" ∈ GW := mem_gw 61 (by decide +kernel) (by decide +kernel)
theorem q_63 : Cond.laysFinal RX0 "Tetherline$Floor" "rows" "I" ∈ GW := mem_gw 63 (by decide +kernel) (by decide +kernel)
theorem q_65 : Cond.laysFinal RX0 "Tetherline$Floor" "pillarNumbers" "[I" ∈ GW := mem_gw 65 (by decide +kernel) (by decide +kernel)
theorem q_67 : Cond.lays RX0 "Tetherline$Floor" "pillars" "I" ∈ GW := mem_gw 67 (by decide +kernel) (by decide +kernel)
theorem q_70 : Cond.methodLink RX2 36 yX2_squareAt ∈ GW := mem_gw 70 (by decide +kernel) (by decide +kernel)
theorem q_71 : Cond.static yX2_squareAt ∈ GW := mem_gw 71 (by decide +kernel) (by decide +kernel)
theorem q_72 : Cond.code yX2_squareAt cX2_squareAt 2 (some .int) ∈ GW := mem_gw 72 (by decide +kernel) (by decide +kernel)
theorem q_73 : Cond.methodLink RX2 43 yX2_placeOf ∈ GW := mem_gw 73 (by decide +kernel) (by decide +kernel)
theorem q_74 : Cond.static yX2_placeOf ∈ GW := mem_gw 74 (by decide +kernel) (by decide +kernel)
theorem q_75 : Cond.code yX2_placeOf cX2_placeOf 2 (some .int) ∈ GW := mem_gw 75 (by decide +kernel) (by decide +kernel)
theorem q_76 : Cond.methodLink RX2 49 yX2_measureLengths ∈ GW := mem_gw 76 (by decide +kernel) (by decide +kernel)
theorem q_78 : Cond.instanceMethod yX2_measureLengths ∈ GW := mem_gw 78 (by decide +kernel) (by decide +kernel)
theorem q_79 : Cond.code yX2_measureLengths cX2_measureLengths 4 none ∈ GW := mem_gw 79 (by decide +kernel) (by decide +kernel)
theorem q_80 : Cond.methodLink RX2 163 yX1_begin ∈ GW := mem_gw 80 (by decide +kernel) (by decide +kernel)
theorem q_81 : Cond.instanceMethod yX1_begin ∈ GW := mem_gw 81 (by decide +kernel) (by decide +kernel)
theorem q_82 : Cond.selects RX1 yX1_begin yX1_begin ∈ GW := mem_gw 82 (by decide +kernel) (by decide +kernel)
theorem q_83 : Cond.code yX1_begin cX1_begin 2 none ∈ GW := mem_gw 83 (by decide +kernel) (by decide +kernel)
theorem q_84 : Cond.methodLink RX1 18 yJ7_fill_53178 ∈ GW := mem_gw 84 (by decide +kernel) (by decide +kernel)
theorem q_85 : Cond.methodLink RX1 28 yX1_add ∈ GW := mem_gw 85 (by decide +kernel) (by decide +kernel)
theorem q_87 : Cond.instanceMethod yX1_add ∈ GW := mem_gw 87 (by decide +kernel) (by decide +kernel)
theorem q_88 : Cond.code yX1_add cX1_add 3 none ∈ GW := mem_gw 88 (by decide +kernel) (by decide +kernel)
theorem q_89 : Cond.methodLink RX2 167 yX1_count ∈ GW := mem_gw 89 (by decide +kernel) (by decide +kernel)
theorem q_90 : Cond.instanceMethod yX1_count ∈ GW := mem_gw 90 (by decide +kernel) (by decide +kernel)
theorem q_91 : Cond.selects RX1 yX1_count yX1_count ∈ GW := mem_gw 91 (by decide +kernel) (by decide +kernel)
theorem q_92 : Cond.code yX1_count cX1_count 1 (some .int) ∈ GW := mem_gw 92 (by decide +kernel) (by decide +kernel)
theorem q_93 : Cond.methodLink RX2 170 yX1_placeAt ∈ GW := mem_gw 93 (by decide +kernel) (by decide +kernel)
theorem q_94 : Cond.instanceMethod yX1_placeAt ∈ GW := mem_gw 94 (by decide +kernel) (by decide +kernel)
theorem q_95 : Cond.selects RX1 yX1_placeAt yX1_placeAt ∈ GW := mem_gw 95 (by decide +kernel) (by decide +kernel)
theorem q_96 : Cond.code yX1_placeAt cX1_placeAt 2 (some .int) ∈ GW := mem_gw 96 (by decide +kernel) (by decide +kernel)
theorem q_97 : Cond.methodLink RX2 151 yX0_after ∈ GW := mem_gw 97 (by decide +kernel) (by decide +kernel)
theorem q_98 : Cond.instanceMethod yX0_after ∈ GW := mem_gw 98 (by decide +kernel) (by decide +kernel)
theorem q_99 : Cond.selects RX0 yX0_after yX0_after ∈ GW := mem_gw 99 (by decide +kernel) (by decide +kernel)
theorem q_100 : Cond.code yX0_after cX0_after 5 (some .int) ∈ GW := mem_gw 100 (by decide +kernel) (by decide +kernel)
theorem q_102 : Cond.static yX2_squareOf ∈ GW := mem_gw 102 (by decide +kernel) (by decide +kernel)
theorem q_103 : Cond.code yX2_squareOf cX2_squareOf 1 (some .int) ∈ GW := mem_gw 103 (by decide +kernel) (by decide +kernel)
theorem q_105 : Cond.static yX2_columnOf ∈ GW := mem_gw 105 (by decide +kernel) (by decide +kernel)
theorem q_106 : Cond.code yX2_columnOf cX2_columnOf 1 (some .int) ∈ GW := mem_gw 106 (by decide +kernel) (by decide +kernel)
theorem q_108 : Cond.static yX2_rowOf ∈ GW := mem_gw 108 (by decide +kernel) (by decide +kernel)
theorem q_109 : Cond.code yX2_rowOf cX2_rowOf 1 (some .int) ∈ GW := mem_gw 109 (by decide +kernel) (by decide +kernel)
theorem q_111 : Cond.static yX2_wordOf ∈ GW := mem_gw 111 (by decide +kernel) (by decide +kernel)
theorem q_112 : Cond.code yX2_wordOf cX2_wordOf 1 (some .int) ∈ GW := mem_gw 112 (by decide +kernel) (by decide +kernel)
theorem q_113 : Cond.methodLink RX0 51 yX0_placeAt ∈ GW := mem_gw 113 (by decide +kernel) (by decide +kernel)
theorem q_115 : Cond.instanceMethod yX0_placeAt ∈ GW := mem_gw 115 (by decide +kernel) (by decide +kernel)
theorem q_116 : Cond.code yX0_placeAt cX0_placeAt 4 (some .int) ∈ GW := mem_gw 116 (by decide +kernel) (by decide +kernel)
theorem q_117 : Cond.methodLink RX0 61 yX0_has ∈ GW := mem_gw 117 (by decide +kernel) (by decide +kernel)
theorem q_118 : Cond.instanceMethod yX0_has ∈ GW := mem_gw 118 (by decide +kernel) (by decide +kernel)
theorem q_119 : Cond.selects RX0 yX0_has yX0_has ∈ GW := mem_gw 119 (by decide +kernel) (by decide +kernel)
theorem q_120 : Cond.code yX0_has cX0_has 3 (some .boolean) ∈ GW := mem_gw 120 (by decide +kernel) (by decide +kernel)
theorem q_122 : Cond.methodLink RX0 69 yX0_isPillar ∈ GW := mem_gw 122 (by decide +kernel) (by decide +kernel)
theorem q_123 : Cond.instanceMethod yX0_isPillar ∈ GW := mem_gw 123 (by decide +kernel) (by decide +kernel)
theorem q_124 : Cond.selects RX0 yX0_isPillar yX0_isPillar ∈ GW := mem_gw 124 (by decide +kernel) (by decide +kernel)
theorem q_125 : Cond.code yX0_isPillar cX0_isPillar 2 (some .boolean) ∈ GW := mem_gw 125 (by decide +kernel) (by decide +kernel)
theorem q_126 : Cond.methodLink RX0 31 yX0_pillarNumberOf ∈ GW := mem_gw 126 (by decide +kernel) (by decide +kernel)
theorem q_128 : Cond.instanceMethod yX0_pillarNumberOf ∈ GW := mem_gw 128 (by decide +kernel) (by decide +kernel)
theorem q_129 : Cond.code yX0_pillarNumberOf cX0_pillarNumberOf 2 (some .int) ∈ GW := mem_gw 129 (by decide +kernel) (by decide +kernel)
theorem q_131 : Cond.methodLink RX0 55 yX0_wordToTheRight ∈ GW := mem_gw 131 (by decide +kernel) (by decide +kernel)
theorem q_133 : Cond.instanceMethod yX0_wordToTheRight ∈ GW := mem_gw 133 (by decide +kernel) (by decide +kernel)
theorem q_134 : Cond.code yX0_wordToTheRight cX0_wordToTheRight 7 (some .int) ∈ GW := mem_gw 134 (by decide +kernel) (by decide +kernel)
theorem q_136 : Cond.static yX2_withLetter ∈ GW := mem_gw 136 (by decide +kernel) (by decide +kernel)
theorem q_137 : Cond.code yX2_withLetter cX2_withLetter 2 (some .int) ∈ GW := mem_gw 137 (by decide +kernel) (by decide +kernel)
theorem q_138 : Cond.methodLink RX2 137 yX2_lastLetterOf ∈ GW := mem_gw 138 (by decide +kernel) (by decide +kernel)
theorem q_139 : Cond.static yX2_lastLetterOf ∈ GW := mem_gw 139 (by decide +kernel) (by decide +kernel)
theorem q_140 : Cond.code yX2_lastLetterOf cX2_lastLetterOf 1 (some .int) ∈ GW := mem_gw 140 (by decide +kernel) (by decide +kernel)
theorem q_141 : Cond.methodLink RX2 188 yX2_oppositeOf ∈ GW := mem_gw 141 (by decide +kernel) (by decide +kernel)
theorem q_142 : Cond.static yX2_oppositeOf ∈ GW := mem_gw 142 (by decide +kernel) (by decide +kernel)
theorem q_143 : Cond.code yX2_oppositeOf cX2_oppositeOf 1 (some .int) ∈ GW := mem_gw 143 (by decide +kernel) (by decide +kernel)
theorem q_144 : Cond.methodLink RX0 58 yX0_wordToTheLeft ∈ GW := mem_gw 144 (by decide +kernel) (by decide +kernel)
theorem q_146 : Cond.instanceMethod yX0_wordToTheLeft ∈ GW := mem_gw 146 (by decide +kernel) (by decide +kernel)
theorem q_147 : Cond.code yX0_wordToTheLeft cX0_wordToTheLeft 7 (some .int) ∈ GW := mem_gw 147 (by decide +kernel) (by decide +kernel)
theorem q_149 : Cond.methodLink RX2 173 yX1_reach ∈ GW := mem_gw 149 (by decide +kernel) (by decide +kernel)
theorem q_150 : Cond.instanceMethod yX1_reach ∈ GW := mem_gw 150 (by decide +kernel) (by decide +kernel)
theorem q_151 : Cond.selects RX1 yX1_reach yX1_reach ∈ GW := mem_gw 151 (by decide +kernel) (by decide +kernel)
theorem q_152 : Cond.code yX1_reach cX1_reach 3 none ∈ GW := mem_gw 152 (by decide +kernel) (by decide +kernel)
theorem q_153 : Cond.methodLink RX1 32 yX1_distanceOf ∈ GW := mem_gw 153 (by decide +kernel) (by decide +kernel)
theorem q_154 : Cond.instanceMethod yX1_distanceOf ∈ GW := mem_gw 154 (by decide +kernel) (by decide +kernel)
theorem q_155 : Cond.selects RX1 yX1_distanceOf yX1_distanceOf ∈ GW := mem_gw 155 (by decide +kernel) (by decide +kernel)
theorem q_156 : Cond.code yX1_distanceOf cX1_distanceOf 2 (some .int) ∈ GW := mem_gw 156 (by decide +kernel) (by decide +kernel)
theorem q_157 : Cond.fieldLink RX2 28 "Tetherline" "floor" "LTetherline$Floor;" ∈ GW := mem_gw 157 (by decide +kernel) (by decide +kernel)
theorem q_158 : Cond.fieldLink RX2 32 "Tetherline" "limit" "I" ∈ GW := mem_gw 158 (by decide +kernel) (by decide +kernel)
theorem q_159 : Cond.fieldLink RX2 12 "Tetherline" "lengths" "LTetherline$Spread;" ∈ GW := mem_gw 159 (by decide +kernel) (by decide +kernel)
theorem q_160 : Cond.fieldLink RX2 16 "Tetherline" "ways" "LTetherline$Spread;" ∈ GW := mem_gw 160 (by decide +kernel) (by decide +kernel)
theorem q_161 : Cond.fieldLink RX2 40 "Tetherline" "base" "I" ∈ GW := mem_gw 161 (by decide +kernel) (by decide +kernel)
theorem q_162 : Cond.fieldLink RX2 46 "Tetherline" "place" "I" ∈ GW := mem_gw 162 (by decide +kernel) (by decide +kernel)
theorem q_163 : Cond.fieldLink RX2 76 "Tetherline" "stepsMade" "I" ∈ GW := mem_gw 163 (by decide +kernel) (by decide +kernel)
theorem q_164 : Cond.laysFinal RX2 "Tetherline" "floor" "LTetherline$Floor;" ∈ GW := mem_gw 164 (by decide +kernel) (by decide +kernel)
theorem q_166 : Cond.laysFinal RX2 "Tetherline" "limit" "I" ∈ GW := mem_gw 166 (by decide +kernel) (by decide +kernel)
theorem q_168 : Cond.laysFinal RX2 "Tetherline" "lengths" "LTetherline$Spread;" ∈ GW := mem_gw 168 (by decide +kernel) (by decide +kernel)
theorem q_170 : Cond.laysFinal RX2 "Tetherline" "ways" "LTetherline$Spread;" ∈ GW := mem_gw 170 (by decide +kernel) (by decide +kernel)
theorem q_172 : Cond.lays RX2 "Tetherline" "base" "I" ∈ GW := mem_gw 172 (by decide +kernel) (by decide +kernel)
theorem q_174 : Cond.lays RX2 "Tetherline" "place" "I" ∈ GW := mem_gw 174 (by decide +kernel) (by decide +kernel)
theorem q_176 : Cond.lays RX2 "Tetherline" "stepsMade" "I" ∈ GW := mem_gw 176 (by decide +kernel) (by decide +kernel)
theorem q_179 : Cond.methodLink RL 87 yX2_column ∈ GW := mem_gw 179 (by decide +kernel) (by decide +kernel)
theorem q_180 : Cond.instanceMethod yX2_column ∈ GW := mem_gw 180 (by decide +kernel) (by decide +kernel)
theorem q_181 : Cond.selects RX2 yX2_column yX2_column ∈ GW := mem_gw 181 (by decide +kernel) (by decide +kernel)
theorem q_182 : Cond.code yX2_column cX2_column 1 (some .int) ∈ GW := mem_gw 182 (by decide +kernel) (by decide +kernel)
theorem q_183 : Cond.methodLink RX2 114 yX2_squareOf ∈ GW := mem_gw 183 (by decide +kernel) (by decide +kernel)
theorem q_184 : Cond.methodLink RX2 117 yX2_columnOf ∈ GW := mem_gw 184 (by decide +kernel) (by decide +kernel)
theorem q_185 : Cond.methodLink RL 91 yX2_row ∈ GW := mem_gw 185 (by decide +kernel) (by decide +kernel)
theorem q_186 : Cond.instanceMethod yX2_row ∈ GW := mem_gw 186 (by decide +kernel) (by decide +kernel)
theorem q_187 : Cond.selects RX2 yX2_row yX2_row ∈ GW := mem_gw 187 (by decide +kernel) (by decide +kernel)
theorem q_188 : Cond.code yX2_row cX2_row 1 (some .int) ∈ GW := mem_gw 188 (by decide +kernel) (by decide +kernel)
theorem q_189 : Cond.methodLink RX2 120 yX2_rowOf ∈ GW := mem_gw 189 (by decide +kernel) (by decide +kernel)
theorem q_190 : Cond.methodLink RL 95 yX2_letters ∈ GW := mem_gw 190 (by decide +kernel) (by decide +kernel)
theorem q_191 : Cond.instanceMethod yX2_letters ∈ GW := mem_gw 191 (by decide +kernel) (by decide +kernel)
theorem q_192 : Cond.selects RX2 yX2_letters yX2_letters ∈ GW := mem_gw 192 (by decide +kernel) (by decide +kernel)
theorem q_193 : Cond.code yX2_letters cX2_letters 1 (some .int) ∈ GW := mem_gw 193 (by decide +kernel) (by decide +kernel)
theorem q_194 : Cond.methodLink RX2 123 yX2_wordOf ∈ GW := mem_gw 194 (by decide +kernel) (by decide +kernel)
theorem q_195 : Cond.methodLink RX2 126 yX2_lettersOf ∈ GW := mem_gw 195 (by decide +kernel) (by decide +kernel)
theorem q_196 : Cond.static yX2_lettersOf ∈ GW := mem_gw 196 (by decide +kernel) (by decide +kernel)
theorem q_197 : Cond.code yX2_lettersOf cX2_lettersOf 3 (some .int) ∈ GW := mem_gw 197 (by decide +kernel) (by decide +kernel)
theorem q_198 : Cond.methodLink RL 102 yX2_length ∈ GW := mem_gw 198 (by decide +kernel) (by decide +kernel)
theorem q_199 : Cond.instanceMethod yX2_length ∈ GW := mem_gw 199 (by decide +kernel) (by decide +kernel)
theorem q_200 : Cond.selects RX2 yX2_length yX2_length ∈ GW := mem_gw 200 (by decide +kernel) (by decide +kernel)
theorem q_201 : Cond.code yX2_length cX2_length 1 (some .int) ∈ GW := mem_gw 201 (by decide +kernel) (by decide +kernel)
theorem q_202 : Cond.methodLink RX2 101 yX1_distanceOf ∈ GW := mem_gw 202 (by decide +kernel) (by decide +kernel)
theorem q_203 : Cond.methodLink RL 106 yX2_slack ∈ GW := mem_gw 203 (by decide +kernel) (by decide +kernel)
theorem q_204 : Cond.instanceMethod yX2_slack ∈ GW := mem_gw 204 (by decide +kernel) (by decide +kernel)
theorem q_205 : Cond.selects RX2 yX2_slack yX2_slack ∈ GW := mem_gw 205 (by decide +kernel) (by decide +kernel)
theorem q_206 : Cond.code yX2_slack cX2_slack 1 (some .int) ∈ GW := mem_gw 206 (by decide +kernel) (by decide +kernel)
theorem q_207 : Cond.methodLink RX2 89 yX2_length ∈ GW := mem_gw 207 (by decide +kernel) (by decide +kernel)
theorem q_208 : Cond.methodLink RL 110 yX2_steps ∈ GW := mem_gw 208 (by decide +kernel) (by decide +kernel)
theorem q_209 : Cond.instanceMethod yX2_steps ∈ GW := mem_gw 209 (by decide +kernel) (by decide +kernel)
theorem q_210 : Cond.selects RX2 yX2_steps yX2_steps ∈ GW := mem_gw 210 (by decide +kernel) (by decide +kernel)
theorem q_211 : Cond.code yX2_steps cX2_steps 1 (some .int) ∈ GW := mem_gw 211 (by decide +kernel) (by decide +kernel)
theorem q_212 : Cond.methodLink RL 120 yX2_bends ∈ GW := mem_gw 212 (by decide +kernel) (by decide +kernel)
theorem q_213 : Cond.instanceMethod yX2_bends ∈ GW := mem_gw 213 (by decide +kernel) (by decide +kernel)
theorem q_214 : Cond.selects RX2 yX2_bends yX2_bends ∈ GW := mem_gw 214 (by decide +kernel) (by decide +kernel)
theorem q_215 : Cond.code yX2_bends cX2_bends 6 (some .int) ∈ GW := mem_gw 215 (by decide +kernel) (by decide +kernel)
theorem q_216 : Cond.methodLink RX2 148 yX2_cableDirection ∈ GW := mem_gw 216 (by decide +kernel) (by decide +kernel)
theorem q_218 : Cond.instanceMethod yX2_cableDirection ∈ GW := mem_gw 218 (by decide +kernel) (by decide +kernel)
theorem q_219 : Cond.code yX2_cableDirection cX2_cableDirection 4 (some .int) ∈ GW := mem_gw 219 (by decide +kernel) (by decide +kernel)
theorem q_220 : Cond.methodLink RL 133 yX2_squares ∈ GW := mem_gw 220 (by decide +kernel) (by decide +kernel)
theorem q_221 : Cond.instanceMethod yX2_squares ∈ GW := mem_gw 221 (by decide +kernel) (by decide +kernel)
theorem q_222 : Cond.selects RX2 yX2_squares yX2_squares ∈ GW := mem_gw 222 (by decide +kernel) (by decide +kernel)
theorem q_223 : Cond.code yX2_squares cX2_squares 3 (some .int) ∈ GW := mem_gw 223 (by decide +kernel) (by decide +kernel)
theorem q_224 : Cond.methodLink RX2 154 yX2_leastLengthOf ∈ GW := mem_gw 224 (by decide +kernel) (by decide +kernel)
theorem q_226 : Cond.instanceMethod yX2_leastLengthOf ∈ GW := mem_gw 226 (by decide +kernel) (by decide +kernel)
theorem q_227 : Cond.code yX2_leastLengthOf cX2_leastLengthOf 5 (some .int) ∈ GW := mem_gw 227 (by decide +kernel) (by decide +kernel)
theorem q_228 : Cond.methodLink RX2 160 yX2_isWithinLimit ∈ GW := mem_gw 228 (by decide +kernel) (by decide +kernel)
theorem q_230 : Cond.instanceMethod yX2_isWithinLimit ∈ GW := mem_gw 230 (by decide +kernel) (by decide +kernel)
theorem q_231 : Cond.code yX2_isWithinLimit cX2_isWithinLimit 2 (some .boolean) ∈ GW := mem_gw 231 (by decide +kernel) (by decide +kernel)
theorem q_232 : Cond.methodLink RL 53 yL_cell ∈ GW := mem_gw 232 (by decide +kernel) (by decide +kernel)
theorem q_233 : Cond.static yL_cell ∈ GW := mem_gw 233 (by decide +kernel) (by decide +kernel)
theorem q_234 : Cond.code yL_cell cL_cell 2 (some .int) ∈ GW := mem_gw 234 (by decide +kernel) (by decide +kernel)
theorem q_235 : Cond.methodLink RL 65 yL_pillar ∈ GW := mem_gw 235 (by decide +kernel) (by decide +kernel)
theorem q_236 : Cond.static yL_pillar ∈ GW := mem_gw 236 (by decide +kernel) (by decide +kernel)
theorem q_237 : Cond.codeWith yL_pillar cL_pillar 5 (some .int) [(0, 10, 13, 13), (0, 10, 17, 15)] ∈ GW := mem_gw 237 (by decide +kernel) (by decide +kernel)
theorem q_238 : Cond.classLink RL 13 "java/lang/IndexOutOfBoundsException" ∈ GW := mem_gw 238 (by decide +kernel) (by decide +kernel)
theorem q_239 : Cond.classLink RL 15 "java/lang/IllegalStateException" ∈ GW := mem_gw 239 (by decide +kernel) (by decide +kernel)
theorem q_240 : Cond.methodLink RL 7 yX2_pillar ∈ GW := mem_gw 240 (by decide +kernel) (by decide +kernel)
theorem q_241 : Cond.instanceMethod yX2_pillar ∈ GW := mem_gw 241 (by decide +kernel) (by decide +kernel)
theorem q_242 : Cond.selects RX2 yX2_pillar yX2_pillar ∈ GW := mem_gw 242 (by decide +kernel) (by decide +kernel)
theorem q_243 : Cond.code yX2_pillar cX2_pillar 6 (some .int) ∈ GW := mem_gw 243 (by decide +kernel) (by decide +kernel)
theorem q_244 : Cond.methodLink RX2 52 yX2_requireSquare ∈ GW := mem_gw 244 (by decide +kernel) (by decide +kernel)
theorem q_246 : Cond.instanceMethod yX2_requireSquare ∈ GW := mem_gw 246 (by decide +kernel) (by decide +kernel)
theorem q_247 : Cond.code yX2_requireSquare cX2_requireSquare 3 none ∈ GW := mem_gw 247 (by decide +kernel) (by decide +kernel)
theorem q_248 : Cond.methodLink RX2 179 yX0_has ∈ GW := mem_gw 248 (by decide +kernel) (by decide +kernel)
theorem q_249 : Cond.classLink RX2 132 "java/lang/IndexOutOfBoundsException" ∈ GW := mem_gw 249 (by decide +kernel) (by decide +kernel)
theorem q_250 : Cond.instantiable "java/lang/IndexOutOfBoundsException" 6 ∈ GW := mem_gw 250 (by decide +kernel) (by decide +kernel)
theorem q_258 : Cond.selects "java/lang/IndexOutOfBoundsException" ⟨"java/lang/Throwable", "fillInStackTrace", "(I)Ljava/lang/Throwable;"⟩ ⟨"java/lang/Throwable", "fillInStackTrace", "(I)Ljava/lang/Throwable;"⟩ ∈ GW := mem_gw 258 (by decide +kernel) (by decide +kernel)
theorem q_259 : Cond.selects "java/lang/IndexOutOfBoundsException" ⟨"java/lang/Throwable", "fillInStackTrace", "()Ljava/lang/Throwable;"⟩ ⟨"java/lang/Throwable", "fillInStackTrace", "()Ljava/lang/Throwable;"⟩ ∈ GW := mem_gw 259 (by decide +kernel) (by decide +kernel)
theorem q_260 : Cond.lays "java/lang/IndexOutOfBoundsException" "java/lang/Throwable" "cause" "Ljava/lang/Throwable;" ∈ GW := mem_gw 260 (by decide +kernel) (by decide +kernel)
theorem q_261 : Cond.lays "java/lang/Throwable" "java/lang/Throwable" "cause" "Ljava/lang/Throwable;" ∈ GW := mem_gw 261 (by decide +kernel) (by decide +kernel)
theorem q_262 : Cond.lays "java/lang/IndexOutOfBoundsException" "java/lang/Throwable" "stackTrace" "[Ljava/lang/StackTraceElement;" ∈ GW := mem_gw 262 (by decide +kernel) (by decide +kernel)
theorem q_263 : Cond.lays "java/lang/Throwable" "java/lang/Throwable" "stackTrace" "[Ljava/lang/StackTraceElement;" ∈ GW := mem_gw 263 (by decide +kernel) (by decide +kernel)
theorem q_264 : Cond.lays "java/lang/IndexOutOfBoundsException" "java/lang/Throwable" "suppressedExceptions" "Ljava/util/List;" ∈ GW := mem_gw 264 (by decide +kernel) (by decide +kernel)
theorem q_265 : Cond.lays "java/lang/Throwable" "java/lang/Throwable" "suppressedExceptions" "Ljava/util/List;" ∈ GW := mem_gw 265 (by decide +kernel) (by decide +kernel)
theorem q_266 : Cond.lays "java/lang/IndexOutOfBoundsException" "java/lang/Throwable" "detailMessage" "Ljava/lang/String;" ∈ GW := mem_gw 266 (by decide +kernel) (by decide +kernel)
theorem q_267 : Cond.lays "java/lang/Throwable" "java/lang/Throwable" "detailMessage" "Ljava/lang/String;" ∈ GW := mem_gw 267 (by decide +kernel) (by decide +kernel)
theorem q_268 : Cond.lays "java/lang/IndexOutOfBoundsException" "java/lang/Throwable" "backtrace" "Ljava/lang/Object;" ∈ GW := mem_gw 268 (by decide +kernel) (by decide +kernel)
theorem q_269 : Cond.lays "java/lang/Throwable" "java/lang/Throwable" "backtrace" "Ljava/lang/Object;" ∈ GW := mem_gw 269 (by decide +kernel) (by decide +kernel)
theorem q_270 : Cond.fieldLink "java/lang/Throwable" 198 "java/lang/Throwable" "backtrace" "Ljava/lang/Object;" ∈ GW := mem_gw 270 (by decide +kernel) (by decide +kernel)
theorem q_272 : Cond.instanceMethod ⟨"java/lang/Throwable", "<init>", "()V"⟩ ∈ GW := mem_gw 272 (by decide +kernel) (by decide +kernel)
theorem q_273 : Cond.code ⟨"java/lang/Throwable", "<init>", "()V"⟩ prog_14_method_1_code 1 none ∈ GW := mem_gw 273 (by decide +kernel) (by decide +kernel)
theorem q_274 : Cond.methodLink "java/lang/Throwable" 1 ⟨"java/lang/Object", "<init>", "()V"⟩ ∈ GW := mem_gw 274 (by decide +kernel) (by decide +kernel)
theorem q_275 : Cond.fieldLink "java/lang/Throwable" 13 "java/lang/Throwable" "UNASSIGNED_STACK" "[Ljava/lang/StackTraceElement;" ∈ GW := mem_gw 275 (by decide +kernel) (by decide +kernel)
theorem q_277 : Cond.fieldLink "java/lang/Throwable" 20 "java/lang/Throwable" "SUPPRESSED_SENTINEL" "Ljava/util/List;" ∈ GW := mem_gw 277 (by decide +kernel) (by decide +kernel)
theorem q_279 : Cond.methodLink "java/lang/Throwable" 27 ⟨"java/lang/Throwable", "fillInStackTrace", "()Ljava/lang/Throwable;"⟩ ∈ GW := mem_gw 279 (by decide +kernel) (by decide +kernel)
theorem q_280 : Cond.instanceMethod ⟨"java/lang/Throwable", "fillInStackTrace", "()Ljava/lang/Throwable;"⟩ ∈ GW := mem_gw 280 (by decide +kernel) (by decide +kernel)
theorem q_282 : Cond.selects "java/lang/IllegalArgumentException" ⟨"java/lang/Throwable", "fillInStackTrace", "()Ljava/lang/Throwable;"⟩ ⟨"java/lang/Throwable", "fillInStackTrace", "()Ljava/lang/Throwable;"⟩ ∈ GW := mem_gw 282 (by decide +kernel) (by decide +kernel)
theorem q_283 : Cond.selects "java/lang/IllegalStateException" ⟨"java/lang/Throwable", "fillInStackTrace", "()Ljava/lang/Throwable;"⟩ ⟨"java/lang/Throwable", "fillInStackTrace", "()Ljava/lang/Throwable;"⟩ ∈ GW := mem_gw 283 (by decide +kernel) (by decide +kernel)
theorem q_284 : Cond.selects "java/util/NoSuchElementException" ⟨"java/lang/Throwable", "fillInStackTrace", "()Ljava/lang/Throwable;"⟩ ⟨"java/lang/Throwable", "fillInStackTrace", "()Ljava/lang/Throwable;"⟩ ∈ GW := mem_gw 284 (by decide +kernel) (by decide +kernel)
theorem q_286 : Cond.methodLink "java/lang/Throwable" 202 ⟨"java/lang/Throwable", "fillInStackTrace", "(I)Ljava/lang/Throwable;"⟩ ∈ GW := mem_gw 286 (by decide +kernel) (by decide +kernel)
theorem q_288 : Cond.instanceMethod ⟨"java/lang/Throwable", "fillInStackTrace", "(I)Ljava/lang/Throwable;"⟩ ∈ GW := mem_gw 288 (by decide +kernel) (by decide +kernel)
theorem q_289 : Cond.instantiable "java/lang/Throwable" 6 ∈ GW := mem_gw 289 (by decide +kernel) (by decide +kernel)
theorem q_292 : Cond.methodLink RX2 136 ⟨"java/lang/IndexOutOfBoundsException", "<init>", "(Ljava/lang/String;)V"⟩ ∈ GW := mem_gw 292 (by decide +kernel) (by decide +kernel)
theorem q_293 : Cond.instanceMethod ⟨"java/lang/IndexOutOfBoundsException", "<init>", "(Ljava/lang/String;)V"⟩ ∈ GW := mem_gw 293 (by decide +kernel) (by decide +kernel)
theorem q_294 : Cond.code ⟨"java/lang/IndexOutOfBoundsException", "<init>", "(Ljava/lang/String;)V"⟩ prog_10_method_2_code 2 none ∈ GW := mem_gw 294 (by decide +kernel) (by decide +kernel)
theorem q_295 : Cond.methodLink "java/lang/IndexOutOfBoundsException" 7 ⟨"java/lang/RuntimeException", "<init>", "(Ljava/lang/String;)V"⟩ ∈ GW := mem_gw 295 (by decide +kernel) (by decide +kernel)
theorem q_296 : Cond.instanceMethod ⟨"java/lang/RuntimeException", "<init>", "(Ljava/lang/String;)V"⟩ ∈ GW := mem_gw 296 (by decide +kernel) (by decide +kernel)
theorem q_297 : Cond.code ⟨"java/lang/RuntimeException", "<init>", "(Ljava/lang/String;)V"⟩ prog_12_method_2_code 2 none ∈ GW := mem_gw 297 (by decide +kernel) (by decide +kernel)
theorem q_298 : Cond.methodLink "java/lang/RuntimeException" 7 ⟨"java/lang/Exception", "<init>", "(Ljava/lang/String;)V"⟩ ∈ GW := mem_gw 298 (by decide +kernel) (by decide +kernel)
theorem q_299 : Cond.instanceMethod ⟨"java/lang/Exception", "<init>", "(Ljava/lang/String;)V"⟩ ∈ GW := mem_gw 299 (by decide +kernel) (by decide +kernel)
theorem q_300 : Cond.code ⟨"java/lang/Exception", "<init>", "(Ljava/lang/String;)V"⟩ prog_7_method_2_code 2 none ∈ GW := mem_gw 300 (by decide +kernel) (by decide +kernel)
theorem q_301 : Cond.methodLink "java/lang/Exception" 7 ⟨"java/lang/Throwable", "<init>", "(Ljava/lang/String;)V"⟩ ∈ GW := mem_gw 301 (by decide +kernel) (by decide +kernel)
theorem q_302 : Cond.instanceMethod ⟨"java/lang/Throwable", "<init>", "(Ljava/lang/String;)V"⟩ ∈ GW := mem_gw 302 (by decide +kernel) (by decide +kernel)
theorem q_303 : Cond.code ⟨"java/lang/Throwable", "<init>", "(Ljava/lang/String;)V"⟩ prog_14_method_2_code 2 none ∈ GW := mem_gw 303 (by decide +kernel) (by decide +kernel)
theorem q_304 : Cond.fieldLink "java/lang/Throwable" 198 "java/lang/Throwable" "backtrace" "Ljava/lang/Object;" ∈ GW := mem_gw 304 (by decide +kernel) (by decide +kernel)
theorem q_305 : Cond.fieldLink "java/lang/Throwable" 31 "java/lang/Throwable" "detailMessage" "Ljava/lang/String;" ∈ GW := mem_gw 305 (by decide +kernel) (by decide +kernel)
theorem q_306 : Cond.fieldLink "java/lang/Throwable" 7 "java/lang/Throwable" "cause" "Ljava/lang/Throwable;" ∈ GW := mem_gw 306 (by decide +kernel) (by decide +kernel)
theorem q_307 : Cond.fieldLink "java/lang/Throwable" 17 "java/lang/Throwable" "stackTrace" "[Ljava/lang/StackTraceElement;" ∈ GW := mem_gw 307 (by decide +kernel) (by decide +kernel)
theorem q_308 : Cond.fieldLink "java/lang/Throwable" 24 "java/lang/Throwable" "suppressedExceptions" "Ljava/util/List;" ∈ GW := mem_gw 308 (by decide +kernel) (by decide +kernel)
theorem q_313 : Cond.lays "java/lang/IndexOutOfBoundsException" "java/lang/Throwable" "depth" "I" ∈ GW := mem_gw 313 (by decide +kernel) (by decide +kernel)
theorem q_317 : Cond.arrayClass .byte ∈ GW := mem_gw 317 (by decide +kernel) (by decide +kernel)
theorem q_318 : Cond.methodLink RX2 55 yX0_isFull ∈ GW := mem_gw 318 (by decide +kernel) (by decide +kernel)
theorem q_319 : Cond.instanceMethod yX0_isFull ∈ GW := mem_gw 319 (by decide +kernel) (by decide +kernel)
theorem q_320 : Cond.selects RX0 yX0_isFull yX0_isFull ∈ GW := mem_gw 320 (by decide +kernel) (by decide +kernel)
theorem q_321 : Cond.code yX0_isFull cX0_isFull 1 (some .boolean) ∈ GW := mem_gw 321 (by decide +kernel) (by decide +kernel)
theorem q_322 : Cond.methodLink RX2 59 yX0_isPillar ∈ GW := mem_gw 322 (by decide +kernel) (by decide +kernel)
theorem q_323 : Cond.classLink RX2 63 "java/lang/IllegalStateException" ∈ GW := mem_gw 323 (by decide +kernel) (by decide +kernel)
theorem q_324 : Cond.instantiable "java/lang/IllegalStateException" 6 ∈ GW := mem_gw 324 (by decide +kernel) (by decide +kernel)
theorem q_326 : Cond.selects "java/lang/IllegalStateException" ⟨"java/lang/Throwable", "fillInStackTrace", "(I)Ljava/lang/Throwable;"⟩ ⟨"java/lang/Throwable", "fillInStackTrace", "(I)Ljava/lang/Throwable;"⟩ ∈ GW := mem_gw 326 (by decide +kernel) (by decide +kernel)
theorem q_327 : Cond.lays "java/lang/IllegalStateException" "java/lang/Throwable" "cause" "Ljava/lang/Throwable;" ∈ GW := mem_gw 327 (by decide +kernel) (by decide +kernel)
theorem q_328 : Cond.lays "java/lang/IllegalStateException" "java/lang/Throwable" "stackTrace" "[Ljava/lang/StackTraceElement;" ∈ GW := mem_gw 328 (by decide +kernel) (by decide +kernel)
theorem q_329 : Cond.lays "java/lang/IllegalStateException" "java/lang/Throwable" "suppressedExceptions" "Ljava/util/List;" ∈ GW := mem_gw 329 (by decide +kernel) (by decide +kernel)
theorem q_330 : Cond.lays "java/lang/IllegalStateException" "java/lang/Throwable" "detailMessage" "Ljava/lang/String;" ∈ GW := mem_gw 330 (by decide +kernel) (by decide +kernel)
theorem q_331 : Cond.lays "java/lang/IllegalStateException" "java/lang/Throwable" "backtrace" "Ljava/lang/Object;" ∈ GW := mem_gw 331 (by decide +kernel) (by decide +kernel)
theorem q_333 : Cond.methodLink RX2 67 ⟨"java/lang/IllegalStateException", "<init>", "(Ljava/lang/String;)V"⟩ ∈ GW := mem_gw 333 (by decide +kernel) (by decide +kernel)
theorem q_334 : Cond.instanceMethod ⟨"java/lang/IllegalStateException", "<init>", "(Ljava/lang/String;)V"⟩ ∈ GW := mem_gw 334 (by decide +kernel) (by decide +kernel)
theorem q_335 : Cond.code ⟨"java/lang/IllegalStateException", "<init>", "(Ljava/lang/String;)V"⟩ prog_9_method_2_code 2 none ∈ GW := mem_gw 335 (by decide +kernel) (by decide +kernel)
theorem q_336 : Cond.methodLink "java/lang/IllegalStateException" 7 ⟨"java/lang/RuntimeException", "<init>", "(Ljava/lang/String;)V"⟩ ∈ GW := mem_gw 336 (by decide +kernel) (by decide +kernel)
theorem q_337 : Cond.lays "java/lang/IllegalStateException" "java/lang/Throwable" "depth" "I" ∈ GW := mem_gw 337 (by decide +kernel) (by decide +kernel)
theorem q_339 : Cond.methodLink RX2 70 yX0_setPillar ∈ GW := mem_gw 339 (by decide +kernel) (by decide +kernel)
theorem q_340 : Cond.instanceMethod yX0_setPillar ∈ GW := mem_gw 340 (by decide +kernel) (by decide +kernel)
theorem q_341 : Cond.selects RX0 yX0_setPillar yX0_setPillar ∈ GW := mem_gw 341 (by decide +kernel) (by decide +kernel)
theorem q_342 : Cond.code yX0_setPillar cX0_setPillar 3 (some .int) ∈ GW := mem_gw 342 (by decide +kernel) (by decide +kernel)
theorem q_343 : Cond.methodLink RX0 35 yX0_isFull ∈ GW := mem_gw 343 (by decide +kernel) (by decide +kernel)
theorem q_344 : Cond.methodLink RL 73 yL_base ∈ GW := mem_gw 344 (by decide +kernel) (by decide +kernel)
theorem q_345 : Cond.static yL_base ∈ GW := mem_gw 345 (by decide +kernel) (by decide +kernel)
theorem q_346 : Cond.codeWith yL_base cL_base 4 (some .int) [(0, 6, 9, 13), (0, 6, 12, 15)] ∈ GW := mem_gw 346 (by decide +kernel) (by decide +kernel)
theorem q_347 : Cond.methodLink RL 17 yX2_base ∈ GW := mem_gw 347 (by decide +kernel) (by decide +kernel)
theorem q_348 : Cond.instanceMethod yX2_base ∈ GW := mem_gw 348 (by decide +kernel) (by decide +kernel)
theorem q_349 : Cond.selects RX2 yX2_base yX2_base ∈ GW := mem_gw 349 (by decide +kernel) (by decide +kernel)
theorem q_350 : Cond.code yX2_base cX2_base 4 none ∈ GW := mem_gw 350 (by decide +kernel) (by decide +kernel)
theorem q_352 : Cond.methodLink RL 77 yL_step ∈ GW := mem_gw 352 (by decide +kernel) (by decide +kernel)
theorem q_353 : Cond.static yL_step ∈ GW := mem_gw 353 (by decide +kernel) (by decide +kernel)
theorem q_354 : Cond.codeWith yL_step cL_step 4 (some .int) [(0, 9, 12, 25), (0, 9, 15, 15)] ∈ GW := mem_gw 354 (by decide +kernel) (by decide +kernel)
theorem q_355 : Cond.classLink RL 25 "java/lang/IllegalArgumentException" ∈ GW := mem_gw 355 (by decide +kernel) (by decide +kernel)
theorem q_356 : Cond.methodLink RL 21 yX2_step ∈ GW := mem_gw 356 (by decide +kernel) (by decide +kernel)
theorem q_357 : Cond.instanceMethod yX2_step ∈ GW := mem_gw 357 (by decide +kernel) (by decide +kernel)
theorem q_358 : Cond.selects RX2 yX2_step yX2_step ∈ GW := mem_gw 358 (by decide +kernel) (by decide +kernel)
theorem q_359 : Cond.code yX2_step cX2_step 3 (some .int) ∈ GW := mem_gw 359 (by decide +kernel) (by decide +kernel)
theorem q_360 : Cond.classLink RX2 79 "java/lang/IllegalArgumentException" ∈ GW := mem_gw 360 (by decide +kernel) (by decide +kernel)
theorem q_361 : Cond.instantiable "java/lang/IllegalArgumentException" 6 ∈ GW := mem_gw 361 (by decide +kernel) (by decide +kernel)
theorem q_363 : Cond.selects "java/lang/IllegalArgumentException" ⟨"java/lang/Throwable", "fillInStackTrace", "(I)Ljava/lang/Throwable;"⟩ ⟨"java/lang/Throwable", "fillInStackTrace", "(I)Ljava/lang/Throwable;"⟩ ∈ GW := mem_gw 363 (by decide +kernel) (by decide +kernel)
theorem q_364 : Cond.lays "java/lang/IllegalArgumentException" "java/lang/Throwable" "cause" "Ljava/lang/Throwable;" ∈ GW := mem_gw 364 (by decide +kernel) (by decide +kernel)
theorem q_365 : Cond.lays "java/lang/IllegalArgumentException" "java/lang/Throwable" "stackTrace" "[Ljava/lang/StackTraceElement;" ∈ GW := mem_gw 365 (by decide +kernel) (by decide +kernel)
theorem q_366 : Cond.lays "java/lang/IllegalArgumentException" "java/lang/Throwable" "suppressedExceptions" "Ljava/util/List;" ∈ GW := mem_gw 366 (by decide +kernel) (by decide +kernel)
theorem q_367 : Cond.lays "java/lang/IllegalArgumentException" "java/lang/Throwable" "detailMessage" "Ljava/lang/String;" ∈ GW := mem_gw 367 (by decide +kernel) (by decide +kernel)
theorem q_368 : Cond.lays "java/lang/IllegalArgumentException" "java/lang/Throwable" "backtrace" "Ljava/lang/Object;" ∈ GW := mem_gw 368 (by decide +kernel) (by decide +kernel)
theorem q_370 : Cond.methodLink RX2 83 ⟨"java/lang/IllegalArgumentException", "<init>", "(Ljava/lang/String;)V"⟩ ∈ GW := mem_gw 370 (by decide +kernel) (by decide +kernel)
theorem q_371 : Cond.instanceMethod ⟨"java/lang/IllegalArgumentException", "<init>", "(Ljava/lang/String;)V"⟩ ∈ GW := mem_gw 371 (by decide +kernel) (by decide +kernel)
theorem q_372 : Cond.code ⟨"java/lang/IllegalArgumentException", "<init>", "(Ljava/lang/String;)V"⟩ prog_8_method_2_code 2 none ∈ GW := mem_gw 372 (by decide +kernel) (by decide +kernel)
theorem q_373 : Cond.methodLink "java/lang/IllegalArgumentException" 7 ⟨"java/lang/RuntimeException", "<init>", "(Ljava/lang/String;)V"⟩ ∈ GW := mem_gw 373 (by decide +kernel) (by decide +kernel)
theorem q_374 : Cond.lays "java/lang/IllegalArgumentException" "java/lang/Throwable" "depth" "I" ∈ GW := mem_gw 374 (by decide +kernel) (by decide +kernel)
theorem q_376 : Cond.methodLink RX2 84 yX2_afterStep ∈ GW := mem_gw 376 (by decide +kernel) (by decide +kernel)
theorem q_378 : Cond.instanceMethod yX2_afterStep ∈ GW := mem_gw 378 (by decide +kernel) (by decide +kernel)
theorem q_379 : Cond.code yX2_afterStep cX2_afterStep 4 (some .int) ∈ GW := mem_gw 379 (by decide +kernel) (by decide +kernel)
theorem q_381 : Cond.methodLink RL 81 yL_go ∈ GW := mem_gw 381 (by decide +kernel) (by decide +kernel)
theorem q_382 : Cond.static yL_go ∈ GW := mem_gw 382 (by decide +kernel) (by decide +kernel)
theorem q_383 : Cond.codeWith yL_go cL_go 5 (some .int) [(0, 10, 13, 13), (0, 10, 17, 30)] ∈ GW := mem_gw 383 (by decide +kernel) (by decide +kernel)
theorem q_384 : Cond.classLink RL 30 "java/util/NoSuchElementException" ∈ GW := mem_gw 384 (by decide +kernel) (by decide +kernel)
theorem q_385 : Cond.methodLink RL 27 yX2_go ∈ GW := mem_gw 385 (by decide +kernel) (by decide +kernel)
theorem q_386 : Cond.instanceMethod yX2_go ∈ GW := mem_gw 386 (by decide +kernel) (by decide +kernel)
theorem q_387 : Cond.selects RX2 yX2_go yX2_go ∈ GW := mem_gw 387 (by decide +kernel) (by decide +kernel)
theorem q_388 : Cond.code yX2_go cX2_go 5 (some .int) ∈ GW := mem_gw 388 (by decide +kernel) (by decide +kernel)
theorem q_389 : Cond.methodLink RX2 93 yX2_nearestPlaceOf ∈ GW := mem_gw 389 (by decide +kernel) (by decide +kernel)
theorem q_391 : Cond.instanceMethod yX2_nearestPlaceOf ∈ GW := mem_gw 391 (by decide +kernel) (by decide +kernel)
theorem q_392 : Cond.code yX2_nearestPlaceOf cX2_nearestPlaceOf 5 (some .int) ∈ GW := mem_gw 392 (by decide +kernel) (by decide +kernel)
theorem q_393 : Cond.classLink RX2 96 "java/util/NoSuchElementException" ∈ GW := mem_gw 393 (by decide +kernel) (by decide +kernel)
theorem q_394 : Cond.instantiable "java/util/NoSuchElementException" 6 ∈ GW := mem_gw 394 (by decide +kernel) (by decide +kernel)
theorem q_396 : Cond.selects "java/util/NoSuchElementException" ⟨"java/lang/Throwable", "fillInStackTrace", "(I)Ljava/lang/Throwable;"⟩ ⟨"java/lang/Throwable", "fillInStackTrace", "(I)Ljava/lang/Throwable;"⟩ ∈ GW := mem_gw 396 (by decide +kernel) (by decide +kernel)
theorem q_397 : Cond.lays "java/util/NoSuchElementException" "java/lang/Throwable" "cause" "Ljava/lang/Throwable;" ∈ GW := mem_gw 397 (by decide +kernel) (by decide +kernel)
theorem q_398 : Cond.lays "java/util/NoSuchElementException" "java/lang/Throwable" "stackTrace" "[Ljava/lang/StackTraceElement;" ∈ GW := mem_gw 398 (by decide +kernel) (by decide +kernel)
theorem q_399 : Cond.lays "java/util/NoSuchElementException" "java/lang/Throwable" "suppressedExceptions" "Ljava/util/List;" ∈ GW := mem_gw 399 (by decide +kernel) (by decide +kernel)
theorem q_400 : Cond.lays "java/util/NoSuchElementException" "java/lang/Throwable" "detailMessage" "Ljava/lang/String;" ∈ GW := mem_gw 400 (by decide +kernel) (by decide +kernel)
theorem q_401 : Cond.lays "java/util/NoSuchElementException" "java/lang/Throwable" "backtrace" "Ljava/lang/Object;" ∈ GW := mem_gw 401 (by decide +kernel) (by decide +kernel)
theorem q_403 : Cond.methodLink RX2 100 ⟨"java/util/NoSuchElementException", "<init>", "(Ljava/lang/String;)V"⟩ ∈ GW := mem_gw 403 (by decide +kernel) (by decide +kernel)
theorem q_404 : Cond.instanceMethod ⟨"java/util/NoSuchElementException", "<init>", "(Ljava/lang/String;)V"⟩ ∈ GW := mem_gw 404 (by decide +kernel) (by decide +kernel)
theorem q_405 : Cond.code ⟨"java/util/NoSuchElementException", "<init>", "(Ljava/lang/String;)V"⟩ prog_16_method_4_code 2 none ∈ GW := mem_gw 405 (by decide +kernel) (by decide +kernel)
theorem q_406 : Cond.methodLink "java/util/NoSuchElementException" 13 ⟨"java/lang/RuntimeException", "<init>", "(Ljava/lang/String;)V"⟩ ∈ GW := mem_gw 406 (by decide +kernel) (by decide +kernel)
theorem q_407 : Cond.lays "java/util/NoSuchElementException" "java/lang/Throwable" "depth" "I" ∈ GW := mem_gw 407 (by decide +kernel) (by decide +kernel)
theorem q_409 : Cond.methodLink RL 84 yL_back ∈ GW := mem_gw 409 (by decide +kernel) (by decide +kernel)
theorem q_410 : Cond.static yL_back ∈ GW := mem_gw 410 (by decide +kernel) (by decide +kernel)
theorem q_411 : Cond.codeWith yL_back cL_back 4 (some .int) [(0, 9, 12, 25)] ∈ GW := mem_gw 411 (by decide +kernel) (by decide +kernel)
theorem q_412 : Cond.methodLink RL 32 yX2_back ∈ GW := mem_gw 412 (by decide +kernel) (by decide +kernel)
theorem q_413 : Cond.instanceMethod yX2_back ∈ GW := mem_gw 413 (by decide +kernel) (by decide +kernel)
theorem q_414 : Cond.selects RX2 yX2_back yX2_back ∈ GW := mem_gw 414 (by decide +kernel) (by decide +kernel)
theorem q_415 : Cond.code yX2_back cX2_back 3 (some .int) ∈ GW := mem_gw 415 (by decide +kernel) (by decide +kernel)
theorem q_417 : Cond.methodLink RX2 111 yX2_alongCable ∈ GW := mem_gw 417 (by decide +kernel) (by decide +kernel)
theorem q_419 : Cond.instanceMethod yX2_alongCable ∈ GW := mem_gw 419 (by decide +kernel) (by decide +kernel)
theorem q_420 : Cond.code yX2_alongCable cX2_alongCable 4 (some .int) ∈ GW := mem_gw 420 (by decide +kernel) (by decide +kernel)
theorem q_421 : Cond.methodLink RL 99 yL_letterAt ∈ GW := mem_gw 421 (by decide +kernel) (by decide +kernel)
theorem q_422 : Cond.static yL_letterAt ∈ GW := mem_gw 422 (by decide +kernel) (by decide +kernel)
theorem q_423 : Cond.codeWith yL_letterAt cL_letterAt 4 (some .int) [(0, 9, 12, 13)] ∈ GW := mem_gw 423 (by decide +kernel) (by decide +kernel)
theorem q_424 : Cond.methodLink RL 35 yX2_letterAt ∈ GW := mem_gw 424 (by decide +kernel) (by decide +kernel)
theorem q_425 : Cond.instanceMethod yX2_letterAt ∈ GW := mem_gw 425 (by decide +kernel) (by decide +kernel)
theorem q_426 : Cond.selects RX2 yX2_letterAt yX2_letterAt ∈ GW := mem_gw 426 (by decide +kernel) (by decide +kernel)
theorem q_427 : Cond.code yX2_letterAt cX2_letterAt 5 (some .int) ∈ GW := mem_gw 427 (by decide +kernel) (by decide +kernel)
theorem q_428 : Cond.methodLink RX2 129 yX2_letters ∈ GW := mem_gw 428 (by decide +kernel) (by decide +kernel)
theorem q_430 : Cond.methodLink RL 114 yL_lengthByTrying ∈ GW := mem_gw 430 (by decide +kernel) (by decide +kernel)
theorem q_431 : Cond.static yL_lengthByTrying ∈ GW := mem_gw 431 (by decide +kernel) (by decide +kernel)
theorem q_432 : Cond.codeWith yL_lengthByTrying cL_lengthByTrying 4 (some .int) [(0, 9, 12, 25)] ∈ GW := mem_gw 432 (by decide +kernel) (by decide +kernel)
theorem q_433 : Cond.methodLink RL 38 yX2_lengthByTrying ∈ GW := mem_gw 433 (by decide +kernel) (by decide +kernel)
theorem q_434 : Cond.instanceMethod yX2_lengthByTrying ∈ GW := mem_gw 434 (by decide +kernel) (by decide +kernel)
theorem q_435 : Cond.selects RX2 yX2_lengthByTrying yX2_lengthByTrying ∈ GW := mem_gw 435 (by decide +kernel) (by decide +kernel)
theorem q_436 : Cond.code yX2_lengthByTrying cX2_lengthByTrying 3 (some .int) ∈ GW := mem_gw 436 (by decide +kernel) (by decide +kernel)
theorem q_438 : Cond.methodLink RX2 142 yX2_fewestByTrying ∈ GW := mem_gw 438 (by decide +kernel) (by decide +kernel)
theorem q_439 : Cond.static yX2_fewestByTrying ∈ GW := mem_gw 439 (by decide +kernel) (by decide +kernel)
theorem q_440 : Cond.code yX2_fewestByTrying cX2_fewestByTrying 7 (some .int) ∈ GW := mem_gw 440 (by decide +kernel) (by decide +kernel)
theorem q_441 : Cond.methodLink RX2 176 yX2_apart ∈ GW := mem_gw 441 (by decide +kernel) (by decide +kernel)
theorem q_442 : Cond.static yX2_apart ∈ GW := mem_gw 442 (by decide +kernel) (by decide +kernel)
theorem q_443 : Cond.code yX2_apart cX2_apart 2 (some .int) ∈ GW := mem_gw 443 (by decide +kernel) (by decide +kernel)
theorem q_444 : Cond.methodLink RX2 185 yJ9_abs_0f7a4 ∈ GW := mem_gw 444 (by decide +kernel) (by decide +kernel)
theorem q_445 : Cond.static yJ9_abs_0f7a4 ∈ GW := mem_gw 445 (by decide +kernel) (by decide +kernel)
theorem q_446 : Cond.code yJ9_abs_0f7a4 cJ9_abs_0f7a4 1 (some .int) ∈ GW := mem_gw 446 (by decide +kernel) (by decide +kernel)
theorem q_447 : Cond.methodLink RL 117 yL_cableAt ∈ GW := mem_gw 447 (by decide +kernel) (by decide +kernel)
theorem q_448 : Cond.static yL_cableAt ∈ GW := mem_gw 448 (by decide +kernel) (by decide +kernel)
theorem q_449 : Cond.codeWith yL_cableAt cL_cableAt 4 (some .int) [(0, 9, 12, 13)] ∈ GW := mem_gw 449 (by decide +kernel) (by decide +kernel)
theorem q_450 : Cond.methodLink RL 41 yX2_cableAt ∈ GW := mem_gw 450 (by decide +kernel) (by decide +kernel)
theorem q_451 : Cond.instanceMethod yX2_cableAt ∈ GW := mem_gw 451 (by decide +kernel) (by decide +kernel)
theorem q_452 : Cond.selects RX2 yX2_cableAt yX2_cableAt ∈ GW := mem_gw 452 (by decide +kernel) (by decide +kernel)
theorem q_453 : Cond.code yX2_cableAt cX2_cableAt 3 (some .int) ∈ GW := mem_gw 453 (by decide +kernel) (by decide +kernel)
theorem q_455 : Cond.methodLink RL 124 yL_least ∈ GW := mem_gw 455 (by decide +kernel) (by decide +kernel)
theorem q_456 : Cond.static yL_least ∈ GW := mem_gw 456 (by decide +kernel) (by decide +kernel)
theorem q_457 : Cond.codeWith yL_least cL_least 5 (some .int) [(0, 10, 13, 13)] ∈ GW := mem_gw 457 (by decide +kernel) (by decide +kernel)
theorem q_458 : Cond.methodLink RL 44 yX2_least ∈ GW := mem_gw 458 (by decide +kernel) (by decide +kernel)
theorem q_459 : Cond.instanceMethod yX2_least ∈ GW := mem_gw 459 (by decide +kernel) (by decide +kernel)
theorem q_460 : Cond.selects RX2 yX2_least yX2_least ∈ GW := mem_gw 460 (by decide +kernel) (by decide +kernel)
theorem q_461 : Cond.code yX2_least cX2_least 3 (some .int) ∈ GW := mem_gw 461 (by decide +kernel) (by decide +kernel)
theorem q_462 : Cond.methodLink RL 127 yL_missing ∈ GW := mem_gw 462 (by decide +kernel) (by decide +kernel)
theorem q_463 : Cond.static yL_missing ∈ GW := mem_gw 463 (by decide +kernel) (by decide +kernel)
theorem q_464 : Cond.codeWith yL_missing cL_missing 5 (some .int) [(0, 10, 13, 13)] ∈ GW := mem_gw 464 (by decide +kernel) (by decide +kernel)
theorem q_465 : Cond.methodLink RL 47 yX2_missing ∈ GW := mem_gw 465 (by decide +kernel) (by decide +kernel)
theorem q_466 : Cond.instanceMethod yX2_missing ∈ GW := mem_gw 466 (by decide +kernel) (by decide +kernel)
theorem q_467 : Cond.selects RX2 yX2_missing yX2_missing ∈ GW := mem_gw 467 (by decide +kernel) (by decide +kernel)
theorem q_468 : Cond.code yX2_missing cX2_missing 4 (some .int) ∈ GW := mem_gw 468 (by decide +kernel) (by decide +kernel)
theorem q_469 : Cond.methodLink RL 130 yL_words ∈ GW := mem_gw 469 (by decide +kernel) (by decide +kernel)
theorem q_470 : Cond.static yL_words ∈ GW := mem_gw 470 (by decide +kernel) (by decide +kernel)
theorem q_471 : Cond.codeWith yL_words cL_words 5 (some .int) [(0, 10, 13, 13)] ∈ GW := mem_gw 471 (by decide +kernel) (by decide +kernel)
theorem q_472 : Cond.methodLink RL 50 yX2_words ∈ GW := mem_gw 472 (by decide +kernel) (by decide +kernel)
theorem q_473 : Cond.instanceMethod yX2_words ∈ GW := mem_gw 473 (by decide +kernel) (by decide +kernel)
theorem q_474 : Cond.selects RX2 yX2_words yX2_words ∈ GW := mem_gw 474 (by decide +kernel) (by decide +kernel)
theorem q_475 : Cond.code yX2_words cX2_words 6 (some .int) ∈ GW := mem_gw 475 (by decide +kernel) (by decide +kernel)
theorem q_476 : Cond.classLink RL 62 "TetherlineModel" ∈ GW := mem_gw 476 (by decide +kernel) (by decide +kernel)
theorem q_477 : Cond.instantiable RX3 14 ∈ GW := mem_gw 477 (by decide +kernel) (by decide +kernel)
theorem q_478 : Cond.methodLink RL 64 yX3_init ∈ GW := mem_gw 478 (by decide +kernel) (by decide +kernel)
theorem q_479 : Cond.instanceMethod yX3_init ∈ GW := mem_gw 479 (by decide +kernel) (by decide +kernel)
theorem q_480 : Cond.code yX3_init cX3_init 4 none ∈ GW := mem_gw 480 (by decide +kernel) (by decide +kernel)
theorem q_481 : Cond.methodLink RX3 1 ⟨"java/lang/Object", "<init>", "()V"⟩ ∈ GW := mem_gw 481 (by decide +kernel) (by decide +kernel)
theorem q_482 : Cond.methodLink RX3 25 yX3_bounded ∈ GW := mem_gw 482 (by decide +kernel) (by decide +kernel)
theorem q_483 : Cond.static yX3_bounded ∈ GW := mem_gw 483 (by decide +kernel) (by decide +kernel)
theorem q_484 : Cond.code yX3_bounded cX3_bounded 3 (some .int) ∈ GW := mem_gw 484 (by decide +kernel) (by decide +kernel)
theorem q_485 : Cond.methodLink RX3 39 yX3_searches ∈ GW := mem_gw 485 (by decide +kernel) (by decide +kernel)
theorem q_487 : Cond.instanceMethod yX3_searches ∈ GW := mem_gw 487 (by decide +kernel) (by decide +kernel)
theorem q_488 : Cond.code yX3_searches cX3_searches 5 none ∈ GW := mem_gw 488 (by decide +kernel) (by decide +kernel)
theorem q_489 : Cond.methodLink RX3 82 yX3_after ∈ GW := mem_gw 489 (by decide +kernel) (by decide +kernel)
theorem q_491 : Cond.instanceMethod yX3_after ∈ GW := mem_gw 491 (by decide +kernel) (by decide +kernel)
theorem q_492 : Cond.code yX3_after cX3_after 8 (some .int) ∈ GW := mem_gw 492 (by decide +kernel) (by decide +kernel)
theorem q_493 : Cond.methodLink RX3 65 yX3_isSquare ∈ GW := mem_gw 493 (by decide +kernel) (by decide +kernel)
theorem q_495 : Cond.instanceMethod yX3_isSquare ∈ GW := mem_gw 495 (by decide +kernel) (by decide +kernel)
theorem q_496 : Cond.code yX3_isSquare cX3_isSquare 3 (some .boolean) ∈ GW := mem_gw 496 (by decide +kernel) (by decide +kernel)
theorem q_497 : Cond.methodLink RX3 45 yX3_in ∈ GW := mem_gw 497 (by decide +kernel) (by decide +kernel)
theorem q_498 : Cond.static yX3_in ∈ GW := mem_gw 498 (by decide +kernel) (by decide +kernel)
theorem q_499 : Cond.code yX3_in cX3_in 3 (some .boolean) ∈ GW := mem_gw 499 (by decide +kernel) (by decide +kernel)
theorem q_500 : Cond.methodLink RX3 52 yX3_squareOf ∈ GW := mem_gw 500 (by decide +kernel) (by decide +kernel)
theorem q_501 : Cond.static yX3_squareOf ∈ GW := mem_gw 501 (by decide +kernel) (by decide +kernel)
theorem q_502 : Cond.code yX3_squareOf cX3_squareOf 2 (some .int) ∈ GW := mem_gw 502 (by decide +kernel) (by decide +kernel)
theorem q_503 : Cond.methodLink RX3 69 yX3_isPillar ∈ GW := mem_gw 503 (by decide +kernel) (by decide +kernel)
theorem q_505 : Cond.instanceMethod yX3_isPillar ∈ GW := mem_gw 505 (by decide +kernel) (by decide +kernel)
theorem q_506 : Cond.code yX3_isPillar cX3_isPillar 3 (some .boolean) ∈ GW := mem_gw 506 (by decide +kernel) (by decide +kernel)
theorem q_507 : Cond.methodLink RX3 73 yX3_goesRight ∈ GW := mem_gw 507 (by decide +kernel) (by decide +kernel)
theorem q_509 : Cond.instanceMethod yX3_goesRight ∈ GW := mem_gw 509 (by decide +kernel) (by decide +kernel)
theorem q_510 : Cond.code yX3_goesRight cX3_goesRight 6 (some .int) ∈ GW := mem_gw 510 (by decide +kernel) (by decide +kernel)
theorem q_511 : Cond.methodLink RX3 56 yX3_pillarBelow ∈ GW := mem_gw 511 (by decide +kernel) (by decide +kernel)
theorem q_513 : Cond.instanceMethod yX3_pillarBelow ∈ GW := mem_gw 513 (by decide +kernel) (by decide +kernel)
theorem q_514 : Cond.code yX3_pillarBelow cX3_pillarBelow 6 (some .int) ∈ GW := mem_gw 514 (by decide +kernel) (by decide +kernel)
theorem q_515 : Cond.methodLink RX3 59 yX3_joined ∈ GW := mem_gw 515 (by decide +kernel) (by decide +kernel)
theorem q_516 : Cond.static yX3_joined ∈ GW := mem_gw 516 (by decide +kernel) (by decide +kernel)
theorem q_517 : Cond.code yX3_joined cX3_joined 2 (some .int) ∈ GW := mem_gw 517 (by decide +kernel) (by decide +kernel)
theorem q_518 : Cond.methodLink RX3 76 yX3_goesLeft ∈ GW := mem_gw 518 (by decide +kernel) (by decide +kernel)
theorem q_520 : Cond.instanceMethod yX3_goesLeft ∈ GW := mem_gw 520 (by decide +kernel) (by decide +kernel)
theorem q_521 : Cond.code yX3_goesLeft cX3_goesLeft 6 (some .int) ∈ GW := mem_gw 521 (by decide +kernel) (by decide +kernel)
theorem q_522 : Cond.methodLink RX3 62 yX3_pillarAbove ∈ GW := mem_gw 522 (by decide +kernel) (by decide +kernel)
theorem q_524 : Cond.instanceMethod yX3_pillarAbove ∈ GW := mem_gw 524 (by decide +kernel) (by decide +kernel)
theorem q_525 : Cond.code yX3_pillarAbove cX3_pillarAbove 7 (some .int) ∈ GW := mem_gw 525 (by decide +kernel) (by decide +kernel)
theorem q_526 : Cond.fieldLink RX3 42 "TetherlineModel" "thrown" "I" ∈ GW := mem_gw 526 (by decide +kernel) (by decide +kernel)
theorem q_527 : Cond.fieldLink RX3 29 "TetherlineModel" "columns" "I" ∈ GW := mem_gw 527 (by decide +kernel) (by decide +kernel)
theorem q_528 : Cond.fieldLink RX3 33 "TetherlineModel" "rows" "I" ∈ GW := mem_gw 528 (by decide +kernel) (by decide +kernel)
theorem q_529 : Cond.fieldLink RX3 36 "TetherlineModel" "limit" "I" ∈ GW := mem_gw 529 (by decide +kernel) (by decide +kernel)
theorem q_530 : Cond.fieldLink RX3 49 "TetherlineModel" "pillars" "I" ∈ GW := mem_gw 530 (by decide +kernel) (by decide +kernel)
theorem q_531 : Cond.fieldLink RX3 7 "TetherlineModel" "pillarColumns" "[I" ∈ GW := mem_gw 531 (by decide +kernel) (by decide +kernel)
theorem q_532 : Cond.fieldLink RX3 13 "TetherlineModel" "pillarRows" "[I" ∈ GW := mem_gw 532 (by decide +kernel) (by decide +kernel)
theorem q_533 : Cond.fieldLink RX3 79 "TetherlineModel" "base" "I" ∈ GW := mem_gw 533 (by decide +kernel) (by decide +kernel)
theorem q_534 : Cond.fieldLink RX3 85 "TetherlineModel" "square" "I" ∈ GW := mem_gw 534 (by decide +kernel) (by decide +kernel)
theorem q_535 : Cond.fieldLink RX3 88 "TetherlineModel" "word" "I" ∈ GW := mem_gw 535 (by decide +kernel) (by decide +kernel)
theorem q_536 : Cond.fieldLink RX3 91 "TetherlineModel" "steps" "I" ∈ GW := mem_gw 536 (by decide +kernel) (by decide +kernel)
theorem q_537 : Cond.fieldLink RX3 16 "TetherlineModel" "lengths" "[I" ∈ GW := mem_gw 537 (by decide +kernel) (by decide +kernel)
theorem q_538 : Cond.fieldLink RX3 19 "TetherlineModel" "queue" "[I" ∈ GW := mem_gw 538 (by decide +kernel) (by decide +kernel)
theorem q_539 : Cond.fieldLink RX3 22 "TetherlineModel" "before" "[I" ∈ GW := mem_gw 539 (by decide +kernel) (by decide +kernel)
theorem q_540 : Cond.lays RX3 "TetherlineModel" "thrown" "I" ∈ GW := mem_gw 540 (by decide +kernel) (by decide +kernel)
theorem q_542 : Cond.laysFinal RX3 "TetherlineModel" "columns" "I" ∈ GW := mem_gw 542 (by decide +kernel) (by decide +kernel)
theorem q_544 : Cond.laysFinal RX3 "TetherlineModel" "rows" "I" ∈ GW := mem_gw 544 (by decide +kernel) (by decide +kernel)
theorem q_546 : Cond.laysFinal RX3 "TetherlineModel" "limit" "I" ∈ GW := mem_gw 546 (by decide +kernel) (by decide +kernel)
theorem q_548 : Cond.lays RX3 "TetherlineModel" "pillars" "I" ∈ GW := mem_gw 548 (by decide +kernel) (by decide +kernel)
theorem q_550 : Cond.laysFinal RX3 "TetherlineModel" "pillarColumns" "[I" ∈ GW := mem_gw 550 (by decide +kernel) (by decide +kernel)
theorem q_552 : Cond.laysFinal RX3 "TetherlineModel" "pillarRows" "[I" ∈ GW := mem_gw 552 (by decide +kernel) (by decide +kernel)
theorem q_554 : Cond.lays RX3 "TetherlineModel" "base" "I" ∈ GW := mem_gw 554 (by decide +kernel) (by decide +kernel)
theorem q_556 : Cond.lays RX3 "TetherlineModel" "square" "I" ∈ GW := mem_gw 556 (by decide +kernel) (by decide +kernel)
theorem q_558 : Cond.lays RX3 "TetherlineModel" "word" "I" ∈ GW := mem_gw 558 (by decide +kernel) (by decide +kernel)
theorem q_560 : Cond.lays RX3 "TetherlineModel" "steps" "I" ∈ GW := mem_gw 560 (by decide +kernel) (by decide +kernel)
theorem q_562 : Cond.laysFinal RX3 "TetherlineModel" "lengths" "[I" ∈ GW := mem_gw 562 (by decide +kernel) (by decide +kernel)
theorem q_564 : Cond.laysFinal RX3 "TetherlineModel" "queue" "[I" ∈ GW := mem_gw 564 (by decide +kernel) (by decide +kernel)
theorem q_566 : Cond.laysFinal RX3 "TetherlineModel" "before" "[I" ∈ GW := mem_gw 566 (by decide +kernel) (by decide +kernel)
theorem q_569 : Cond.methodLink RL 69 yX3_thrown ∈ GW := mem_gw 569 (by decide +kernel) (by decide +kernel)
theorem q_570 : Cond.instanceMethod yX3_thrown ∈ GW := mem_gw 570 (by decide +kernel) (by decide +kernel)
theorem q_571 : Cond.selects RX3 yX3_thrown yX3_thrown ∈ GW := mem_gw 571 (by decide +kernel) (by decide +kernel)
theorem q_572 : Cond.code yX3_thrown cX3_thrown 1 (some .int) ∈ GW := mem_gw 572 (by decide +kernel) (by decide +kernel)
theorem q_573 : Cond.methodLink RL 68 yX3_pillar ∈ GW := mem_gw 573 (by decide +kernel) (by decide +kernel)
theorem q_574 : Cond.instanceMethod yX3_pillar ∈ GW := mem_gw 574 (by decide +kernel) (by decide +kernel)
theorem q_575 : Cond.selects RX3 yX3_pillar yX3_pillar ∈ GW := mem_gw 575 (by decide +kernel) (by decide +kernel)
theorem q_576 : Cond.code yX3_pillar cX3_pillar 6 (some .int) ∈ GW := mem_gw 576 (by decide +kernel) (by decide +kernel)
theorem q_577 : Cond.methodLink RX3 94 yX3_holds ∈ GW := mem_gw 577 (by decide +kernel) (by decide +kernel)
theorem q_579 : Cond.instanceMethod yX3_holds ∈ GW := mem_gw 579 (by decide +kernel) (by decide +kernel)
theorem q_580 : Cond.code yX3_holds cX3_holds 2 (some .boolean) ∈ GW := mem_gw 580 (by decide +kernel) (by decide +kernel)
theorem q_581 : Cond.methodLink RL 76 yX3_base ∈ GW := mem_gw 581 (by decide +kernel) (by decide +kernel)
theorem q_582 : Cond.instanceMethod yX3_base ∈ GW := mem_gw 582 (by decide +kernel) (by decide +kernel)
theorem q_583 : Cond.selects RX3 yX3_base yX3_base ∈ GW := mem_gw 583 (by decide +kernel) (by decide +kernel)
theorem q_584 : Cond.code yX3_base cX3_base 4 none ∈ GW := mem_gw 584 (by decide +kernel) (by decide +kernel)
theorem q_585 : Cond.methodLink RL 80 yX3_step ∈ GW := mem_gw 585 (by decide +kernel) (by decide +kernel)
theorem q_586 : Cond.instanceMethod yX3_step ∈ GW := mem_gw 586 (by decide +kernel) (by decide +kernel)
theorem q_587 : Cond.selects RX3 yX3_step yX3_step ∈ GW := mem_gw 587 (by decide +kernel) (by decide +kernel)
theorem q_588 : Cond.code yX3_step cX3_step 4 (some .int) ∈ GW := mem_gw 588 (by decide +kernel) (by decide +kernel)
theorem q_589 : Cond.methodLink RX3 97 yX3_place ∈ GW := mem_gw 589 (by decide +kernel) (by decide +kernel)
theorem q_591 : Cond.instanceMethod yX3_place ∈ GW := mem_gw 591 (by decide +kernel) (by decide +kernel)
theorem q_592 : Cond.code yX3_place cX3_place 1 (some .int) ∈ GW := mem_gw 592 (by decide +kernel) (by decide +kernel)
theorem q_593 : Cond.methodLink RX3 101 yX3_isAble ∈ GW := mem_gw 593 (by decide +kernel) (by decide +kernel)
theorem q_595 : Cond.instanceMethod yX3_isAble ∈ GW := mem_gw 595 (by decide +kernel) (by decide +kernel)
theorem q_596 : Cond.code yX3_isAble cX3_isAble 2 (some .boolean) ∈ GW := mem_gw 596 (by decide +kernel) (by decide +kernel)
theorem q_597 : Cond.methodLink RX3 104 yX3_puts ∈ GW := mem_gw 597 (by decide +kernel) (by decide +kernel)
theorem q_599 : Cond.instanceMethod yX3_puts ∈ GW := mem_gw 599 (by decide +kernel) (by decide +kernel)
theorem q_600 : Cond.code yX3_puts cX3_puts 2 none ∈ GW := mem_gw 600 (by decide +kernel) (by decide +kernel)
theorem q_601 : Cond.methodLink RL 83 yX3_go ∈ GW := mem_gw 601 (by decide +kernel) (by decide +kernel)
theorem q_602 : Cond.instanceMethod yX3_go ∈ GW := mem_gw 602 (by decide +kernel) (by decide +kernel)
theorem q_603 : Cond.selects RX3 yX3_go yX3_go ∈ GW := mem_gw 603 (by decide +kernel) (by decide +kernel)
theorem q_604 : Cond.code yX3_go cX3_go 7 (some .int) ∈ GW := mem_gw 604 (by decide +kernel) (by decide +kernel)
theorem q_605 : Cond.methodLink RX3 108 yX3_sought ∈ GW := mem_gw 605 (by decide +kernel) (by decide +kernel)
theorem q_607 : Cond.instanceMethod yX3_sought ∈ GW := mem_gw 607 (by decide +kernel) (by decide +kernel)
theorem q_608 : Cond.code yX3_sought cX3_sought 6 (some .int) ∈ GW := mem_gw 608 (by decide +kernel) (by decide +kernel)
theorem q_609 : Cond.methodLink RL 86 yX3_back ∈ GW := mem_gw 609 (by decide +kernel) (by decide +kernel)
theorem q_610 : Cond.instanceMethod yX3_back ∈ GW := mem_gw 610 (by decide +kernel) (by decide +kernel)
theorem q_611 : Cond.selects RX3 yX3_back yX3_back ∈ GW := mem_gw 611 (by decide +kernel) (by decide +kernel)
theorem q_612 : Cond.code yX3_back cX3_back 3 (some .int) ∈ GW := mem_gw 612 (by decide +kernel) (by decide +kernel)
theorem q_613 : Cond.methodLink RX3 112 yX3_along ∈ GW := mem_gw 613 (by decide +kernel) (by decide +kernel)
theorem q_615 : Cond.instanceMethod yX3_along ∈ GW := mem_gw 615 (by decide +kernel) (by decide +kernel)
theorem q_616 : Cond.code yX3_along cX3_along 4 (some .int) ∈ GW := mem_gw 616 (by decide +kernel) (by decide +kernel)
theorem q_617 : Cond.methodLink RL 90 yX3_column ∈ GW := mem_gw 617 (by decide +kernel) (by decide +kernel)
theorem q_618 : Cond.instanceMethod yX3_column ∈ GW := mem_gw 618 (by decide +kernel) (by decide +kernel)
theorem q_619 : Cond.selects RX3 yX3_column yX3_column ∈ GW := mem_gw 619 (by decide +kernel) (by decide +kernel)
theorem q_620 : Cond.code yX3_column cX3_column 1 (some .int) ∈ GW := mem_gw 620 (by decide +kernel) (by decide +kernel)
theorem q_621 : Cond.methodLink RL 94 yX3_row ∈ GW := mem_gw 621 (by decide +kernel) (by decide +kernel)
theorem q_622 : Cond.instanceMethod yX3_row ∈ GW := mem_gw 622 (by decide +kernel) (by decide +kernel)
theorem q_623 : Cond.selects RX3 yX3_row yX3_row ∈ GW := mem_gw 623 (by decide +kernel) (by decide +kernel)
theorem q_624 : Cond.code yX3_row cX3_row 1 (some .int) ∈ GW := mem_gw 624 (by decide +kernel) (by decide +kernel)
theorem q_625 : Cond.methodLink RL 98 yX3_letters ∈ GW := mem_gw 625 (by decide +kernel) (by decide +kernel)
theorem q_626 : Cond.instanceMethod yX3_letters ∈ GW := mem_gw 626 (by decide +kernel) (by decide +kernel)
theorem q_627 : Cond.selects RX3 yX3_letters yX3_letters ∈ GW := mem_gw 627 (by decide +kernel) (by decide +kernel)
theorem q_628 : Cond.code yX3_letters cX3_letters 1 (some .int) ∈ GW := mem_gw 628 (by decide +kernel) (by decide +kernel)
theorem q_629 : Cond.methodLink RX3 115 yX3_size ∈ GW := mem_gw 629 (by decide +kernel) (by decide +kernel)
theorem q_630 : Cond.static yX3_size ∈ GW := mem_gw 630 (by decide +kernel) (by decide +kernel)
theorem q_631 : Cond.code yX3_size cX3_size 3 (some .int) ∈ GW := mem_gw 631 (by decide +kernel) (by decide +kernel)
theorem q_632 : Cond.methodLink RL 101 yX3_letterAt ∈ GW := mem_gw 632 (by decide +kernel) (by decide +kernel)
theorem q_633 : Cond.instanceMethod yX3_letterAt ∈ GW := mem_gw 633 (by decide +kernel) (by decide +kernel)
theorem q_634 : Cond.selects RX3 yX3_letterAt yX3_letterAt ∈ GW := mem_gw 634 (by decide +kernel) (by decide +kernel)
theorem q_635 : Cond.code yX3_letterAt cX3_letterAt 4 (some .int) ∈ GW := mem_gw 635 (by decide +kernel) (by decide +kernel)
theorem q_636 : Cond.methodLink RL 105 yX3_length ∈ GW := mem_gw 636 (by decide +kernel) (by decide +kernel)
theorem q_637 : Cond.instanceMethod yX3_length ∈ GW := mem_gw 637 (by decide +kernel) (by decide +kernel)
theorem q_638 : Cond.selects RX3 yX3_length yX3_length ∈ GW := mem_gw 638 (by decide +kernel) (by decide +kernel)
theorem q_639 : Cond.code yX3_length cX3_length 1 (some .int) ∈ GW := mem_gw 639 (by decide +kernel) (by decide +kernel)
theorem q_640 : Cond.methodLink RL 109 yX3_slack ∈ GW := mem_gw 640 (by decide +kernel) (by decide +kernel)
theorem q_641 : Cond.instanceMethod yX3_slack ∈ GW := mem_gw 641 (by decide +kernel) (by decide +kernel)
theorem q_642 : Cond.selects RX3 yX3_slack yX3_slack ∈ GW := mem_gw 642 (by decide +kernel) (by decide +kernel)
theorem q_643 : Cond.code yX3_slack cX3_slack 1 (some .int) ∈ GW := mem_gw 643 (by decide +kernel) (by decide +kernel)
theorem q_644 : Cond.methodLink RL 113 yX3_steps ∈ GW := mem_gw 644 (by decide +kernel) (by decide +kernel)
theorem q_645 : Cond.instanceMethod yX3_steps ∈ GW := mem_gw 645 (by decide +kernel) (by decide +kernel)
theorem q_646 : Cond.selects RX3 yX3_steps yX3_steps ∈ GW := mem_gw 646 (by decide +kernel) (by decide +kernel)
theorem q_647 : Cond.code yX3_steps cX3_steps 1 (some .int) ∈ GW := mem_gw 647 (by decide +kernel) (by decide +kernel)
theorem q_648 : Cond.methodLink RL 116 yX3_lengthByTrying ∈ GW := mem_gw 648 (by decide +kernel) (by decide +kernel)
theorem q_649 : Cond.instanceMethod yX3_lengthByTrying ∈ GW := mem_gw 649 (by decide +kernel) (by decide +kernel)
theorem q_650 : Cond.selects RX3 yX3_lengthByTrying yX3_lengthByTrying ∈ GW := mem_gw 650 (by decide +kernel) (by decide +kernel)
theorem q_651 : Cond.code yX3_lengthByTrying cX3_lengthByTrying 2 (some .int) ∈ GW := mem_gw 651 (by decide +kernel) (by decide +kernel)
theorem q_652 : Cond.methodLink RL 119 yX3_cableAt ∈ GW := mem_gw 652 (by decide +kernel) (by decide +kernel)
theorem q_653 : Cond.instanceMethod yX3_cableAt ∈ GW := mem_gw 653 (by decide +kernel) (by decide +kernel)
theorem q_654 : Cond.selects RX3 yX3_cableAt yX3_cableAt ∈ GW := mem_gw 654 (by decide +kernel) (by decide +kernel)
theorem q_655 : Cond.code yX3_cableAt cX3_cableAt 4 (some .int) ∈ GW := mem_gw 655 (by decide +kernel) (by decide +kernel)
theorem q_656 : Cond.methodLink RL 123 yX3_bends ∈ GW := mem_gw 656 (by decide +kernel) (by decide +kernel)
theorem q_657 : Cond.instanceMethod yX3_bends ∈ GW := mem_gw 657 (by decide +kernel) (by decide +kernel)
theorem q_658 : Cond.selects RX3 yX3_bends yX3_bends ∈ GW := mem_gw 658 (by decide +kernel) (by decide +kernel)
theorem q_659 : Cond.code yX3_bends cX3_bends 5 (some .int) ∈ GW := mem_gw 659 (by decide +kernel) (by decide +kernel)
theorem q_660 : Cond.methodLink RL 126 yX3_least ∈ GW := mem_gw 660 (by decide +kernel) (by decide +kernel)
theorem q_661 : Cond.instanceMethod yX3_least ∈ GW := mem_gw 661 (by decide +kernel) (by decide +kernel)
theorem q_662 : Cond.selects RX3 yX3_least yX3_least ∈ GW := mem_gw 662 (by decide +kernel) (by decide +kernel)
theorem q_663 : Cond.code yX3_least cX3_least 3 (some .int) ∈ GW := mem_gw 663 (by decide +kernel) (by decide +kernel)
theorem q_664 : Cond.methodLink RX3 118 yX3_leastOf ∈ GW := mem_gw 664 (by decide +kernel) (by decide +kernel)
theorem q_666 : Cond.instanceMethod yX3_leastOf ∈ GW := mem_gw 666 (by decide +kernel) (by decide +kernel)
theorem q_667 : Cond.code yX3_leastOf cX3_leastOf 4 (some .int) ∈ GW := mem_gw 667 (by decide +kernel) (by decide +kernel)
theorem q_668 : Cond.methodLink RL 129 yX3_missing ∈ GW := mem_gw 668 (by decide +kernel) (by decide +kernel)
theorem q_669 : Cond.instanceMethod yX3_missing ∈ GW := mem_gw 669 (by decide +kernel) (by decide +kernel)
theorem q_670 : Cond.selects RX3 yX3_missing yX3_missing ∈ GW := mem_gw 670 (by decide +kernel) (by decide +kernel)
theorem q_671 : Cond.code yX3_missing cX3_missing 4 (some .int) ∈ GW := mem_gw 671 (by decide +kernel) (by decide +kernel)
theorem q_672 : Cond.methodLink RL 132 yX3_words ∈ GW := mem_gw 672 (by decide +kernel) (by decide +kernel)
theorem q_673 : Cond.instanceMethod yX3_words ∈ GW := mem_gw 673 (by decide +kernel) (by decide +kernel)
theorem q_674 : Cond.selects RX3 yX3_words yX3_words ∈ GW := mem_gw 674 (by decide +kernel) (by decide +kernel)
theorem q_675 : Cond.code yX3_words cX3_words 6 (some .int) ∈ GW := mem_gw 675 (by decide +kernel) (by decide +kernel)
theorem q_676 : Cond.methodLink RL 136 yX3_squares ∈ GW := mem_gw 676 (by decide +kernel) (by decide +kernel)
theorem q_677 : Cond.instanceMethod yX3_squares ∈ GW := mem_gw 677 (by decide +kernel) (by decide +kernel)
theorem q_678 : Cond.selects RX3 yX3_squares yX3_squares ∈ GW := mem_gw 678 (by decide +kernel) (by decide +kernel)
theorem q_679 : Cond.code yX3_squares cX3_squares 4 (some .int) ∈ GW := mem_gw 679 (by decide +kernel) (by decide +kernel)
theorem q_680 : Cond.arrayClass .long ∈ GW := mem_gw 680 (by decide +kernel) (by decide +kernel)
theorem q_1000 : Cond.selects RX2 yX2_measureLengths yX2_measureLengths ∈ GW := mem_gs 0 (by decide +kernel) (by decide +kernel)
theorem q_1001 : Cond.selects RX1 yX1_add yX1_add ∈ GW := mem_gs 1 (by decide +kernel) (by decide +kernel)
theorem q_1002 : Cond.selects RX0 yX0_placeAt yX0_placeAt ∈ GW := mem_gs 2 (by decide +kernel) (by decide +kernel)
theorem q_1003 : Cond.selects RX0 yX0_pillarNumberOf yX0_pillarNumberOf ∈ GW := mem_gs 3 (by decide +kernel) (by decide +kernel)
theorem q_1004 : Cond.selects RX0 yX0_wordToTheRight yX0_wordToTheRight ∈ GW := mem_gs 4 (by decide +kernel) (by decide +kernel)
theorem q_1005 : Cond.selects RX0 yX0_wordToTheLeft yX0_wordToTheLeft ∈ GW := mem_gs 5 (by decide +kernel) (by decide +kernel)
theorem q_1006 : Cond.selects RX2 yX2_cableDirection yX2_cableDirection ∈ GW := mem_gs 6 (by decide +kernel) (by decide +kernel)
theorem q_1007 : Cond.selects RX2 yX2_leastLengthOf yX2_leastLengthOf ∈ GW := mem_gs 7 (by decide +kernel) (by decide +kernel)
theorem q_1008 : Cond.selects RX2 yX2_isWithinLimit yX2_isWithinLimit ∈ GW := mem_gs 8 (by decide +kernel) (by decide +kernel)
theorem q_1009 : Cond.selects RX2 yX2_requireSquare yX2_requireSquare ∈ GW := mem_gs 9 (by decide +kernel) (by decide +kernel)
theorem q_1011 : Cond.selects RX2 yX2_afterStep yX2_afterStep ∈ GW := mem_gs 11 (by decide +kernel) (by decide +kernel)
theorem q_1012 : Cond.selects RX2 yX2_nearestPlaceOf yX2_nearestPlaceOf ∈ GW := mem_gs 12 (by decide +kernel) (by decide +kernel)
theorem q_1013 : Cond.selects RX2 yX2_alongCable yX2_alongCable ∈ GW := mem_gs 13 (by decide +kernel) (by decide +kernel)
theorem q_1014 : Cond.selects RX3 yX3_searches yX3_searches ∈ GW := mem_gs 14 (by decide +kernel) (by decide +kernel)
theorem q_1015 : Cond.selects RX3 yX3_after yX3_after ∈ GW := mem_gs 15 (by decide +kernel) (by decide +kernel)
theorem q_1016 : Cond.selects RX3 yX3_isSquare yX3_isSquare ∈ GW := mem_gs 16 (by decide +kernel) (by decide +kernel)
theorem q_1017 : Cond.selects RX3 yX3_isPillar yX3_isPillar ∈ GW := mem_gs 17 (by decide +kernel) (by decide +kernel)
theorem q_1018 : Cond.selects RX3 yX3_goesRight yX3_goesRight ∈ GW := mem_gs 18 (by decide +kernel) (by decide +kernel)
theorem q_1019 : Cond.selects RX3 yX3_pillarBelow yX3_pillarBelow ∈ GW := mem_gs 19 (by decide +kernel) (by decide +kernel)
theorem q_1020 : Cond.selects RX3 yX3_goesLeft yX3_goesLeft ∈ GW := mem_gs 20 (by decide +kernel) (by decide +kernel)
theorem q_1021 : Cond.selects RX3 yX3_pillarAbove yX3_pillarAbove ∈ GW := mem_gs 21 (by decide +kernel) (by decide +kernel)
theorem q_1022 : Cond.selects RX3 yX3_holds yX3_holds ∈ GW := mem_gs 22 (by decide +kernel) (by decide +kernel)
theorem q_1023 : Cond.selects RX3 yX3_place yX3_place ∈ GW := mem_gs 23 (by decide +kernel) (by decide +kernel)
theorem q_1024 : Cond.selects RX3 yX3_isAble yX3_isAble ∈ GW := mem_gs 24 (by decide +kernel) (by decide +kernel)
theorem q_1025 : Cond.selects RX3 yX3_puts yX3_puts ∈ GW := mem_gs 25 (by decide +kernel) (by decide +kernel)
theorem q_1026 : Cond.selects RX3 yX3_sought yX3_sought ∈ GW := mem_gs 26 (by decide +kernel) (by decide +kernel)
theorem q_1027 : Cond.selects RX3 yX3_along yX3_along ∈ GW := mem_gs 27 (by decide +kernel) (by decide +kernel)
theorem q_1028 : Cond.selects RX3 yX3_leastOf yX3_leastOf ∈ GW := mem_gs 28 (by decide +kernel) (by decide +kernel)
theorem uX0 : ∀ w ∈ wsX00, w ∈ GW := by decide +kernel
theorem uX1 : ∀ w ∈ wsX10, w ∈ GW := by decide +kernel
theorem uX2 : ∀ w ∈ wsX20, w ∈ GW := by decide +kernel
theorem uX3 : ∀ w ∈ wsX30, w ∈ GW := by decide +kernel
end
section
/-! ints as integers: iI z is the int of z -/
def iI (z : Int) : Int32 := Int32.ofInt z
abbrev InR (z : Int) : Prop := -2147483648 ≤ z ∧ z < 2147483648
theorem iI_add (a b : Int) : iI a + iI b = iI (a + b) := (Int32.ofInt_add a b).symm
theorem iI_sub (a b : Int) : iI a - iI b = iI (a - b) := (Int32.ofInt_sub a b).symm
theorem iI_mul (a b : Int) : iI a * iI b = iI (a * b) := (Int32.ofInt_mul a b).symm
theorem iI_neg (a : Int) : -iI a = iI (-a) := (Int32.ofInt_neg a).symm
theorem iI_int {z : Int} (h : InR z) : (iI z).toInt = z := by
  show (Int32.ofInt z).toInt = z
  rw [Int32.toInt_ofInt]
  exact Jvm.Kit.bmod32 (by have := h.1; omega) (by have := h.2; omega)
theorem iI_le {a b : Int} (ha : InR a) (hb : InR b) : iI a ≤ iI b ↔ a ≤ b := by rw [Int32.le_iff_toInt_le, iI_int ha, iI_int hb]
theorem iI_lt {a b : Int} (ha : InR a) (hb : InR b) : iI a < iI b ↔ a < b := by rw [Int32.lt_iff_toInt_lt, iI_int ha, iI_int hb]
theorem iI_eq {a b : Int} (ha : InR a) (hb : InR b) : iI a = iI b ↔ a = b := by rw [← Int32.toInt_inj, iI_int ha, iI_int hb]
theorem iI_of (x : Int32) : x = iI x.toInt := (Int32.ofInt_toInt x).symm
theorem iI_InR (x : Int32) : InR x.toInt := ⟨by have := x.le_toInt; omega, by have := x.toInt_lt; omega⟩
theorem iI_0 : iI 0 = 0 := rfl
theorem iI_clamp {z : Int} (h0 : 0 ≤ z) (h : z < 2147483648) : (iI z).toNatClampNeg = z.toNat := by
  show (iI z).toInt.toNat = z.toNat
  rw [iI_int ⟨by omega, h⟩]
theorem iI_in {z : Int} {n : Nat} (h0 : 0 ≤ z) (h : z < n) (hn : n < 2147483648) : vp_in (iI z) n := by
  rw [vp_in_iff, iI_int ⟨by omega, by omega⟩]
  exact ⟨h0, h⟩
theorem iI_div {a b : Int} (ha : 0 ≤ a) (ha2 : a < 2147483648) (hb : 0 < b) (hb2 : b < 2147483648) : iI a / iI b = iI (a / b) := by
  have h1 : 0 ≤ a / b := Int.ediv_nonneg ha (Int.le_of_lt hb)
  have h2 : a / b ≤ a := Int.ediv_le_self b ha
  rw [← Int32.toInt_inj, Jvm.Kit.i32_div (by rw [iI_int ⟨by omega, ha2⟩]; omega), iI_int ⟨by omega, ha2⟩, iI_int ⟨by omega, hb2⟩, iI_int ⟨by omega, by omega⟩]
  exact Int.tdiv_eq_ediv_of_nonneg ha
theorem iI_rem {a b : Int} (ha : 0 ≤ a) (ha2 : a < 2147483648) (hb : 0 < b) (hb2 : b < 2147483648) : iI a - iI a / iI b * iI b = iI (a % b) := by
  rw [iI_div ha ha2 hb hb2, iI_mul, iI_sub, Int.emod_def, Int.mul_comm (a / b) b]
def oppZ (a : Int) : Int := if a % 2 = 0 then a + 1 else a - 1
theorem iI_xor1 {a : Int} (h0 : 0 ≤ a) (h : a ≤ 5) : iI a ^^^ iI 1 = iI (oppZ a) := by
  have h : a = 0 ∨ a = 1 ∨ a = 2 ∨ a = 3 ∨ a = 4 ∨ a = 5 := by omega
  rcases h with rfl | rfl | rfl | rfl | rfl | rfl <;> decide
/-- an int array's contents, by integers -/
def aI (g : Nat → Int) : Nat → Int32 := fun k => iI (g k)
def updZ (g : Nat → Int) (k : Nat) (x : Int) : Nat → Int := fun j => if j = k then x else g j
theorem aI_upd (g : Nat → Int) (k : Nat) (x : Int) : upd (aI g) k (iI x) = aI (updZ g k x) := by
  funext j
  simp only [upd, aI, updZ]
  by_cases h : j = k
  · rw [if_pos h, if_pos h]
  · rw [if_neg h, if_neg h]
theorem updZ_s (g : Nat → Int) (k : Nat) (x : Int) : updZ g k x k = x := if_pos rfl
theorem updZ_n {g : Nat → Int} {k j : Nat} {x : Int} (h : j ≠ k) : updZ g k x j = g j := if_neg h
theorem InR_i {a : Int} (h1 : -2147483648 ≤ a) (h2 : a < 2147483648) : InR a := ⟨h1, h2⟩
/-! rows over them -/
section ZV
variable {p : Program} {l : Launch} {e : Env} {R : Room} {s : State} {m : MethodId} {args : Array Value} {below : List Frame} {meth : Method} {c : Code} {H : Heap} {locs : List Loc} {cells slots : Nat} {Q : State → Prop}
variable {cc : ByteArray} {pc : Nat} {ls : Array Slot} {rest : List Value} {D : va_G} {A : Nat → Prop} {a : Nat} {ws : va_W}
theorem zv_iconst (hexec : p.tables.exec = Jvm.exec) (hb : c.code = cc) {n : Int} (hdg : decode cc pc = .ok (.iconst n, 1))
    (k : W p l e R s m args below meth c H locs cells slots Q (F0 m (pc + 1) ls (.int (iI n) :: rest))) : W p l e R s m args below meth c H locs cells slots Q (F0 m pc ls rest) := lv_iconst hexec hb hdg rfl k
theorem zv_bipush (hexec : p.tables.exec = Jvm.exec) (hb : c.code = cc) {n : Int} (hdg : decode cc pc = .ok (.bipush n, 2)) (hv : (Int8.ofInt n).toInt32 = iI n)
    (k : W p l e R s m args below meth c H locs cells slots Q (F0 m (pc + 2) ls (.int (iI n) :: rest))) : W p l e R s m args below meth c H locs cells slots Q (F0 m pc ls rest) := lv_bipush hexec hb hdg hv k
theorem zv_sipush (hexec : p.tables.exec = Jvm.exec) (hb : c.code = cc) {n : Int} (hdg : decode cc pc = .ok (.sipush n, 3)) (hv : (Int16.ofInt n).toInt32 = iI n)
    (k : W p l e R s m args below meth c H locs cells slots Q (F0 m (pc + 3) ls (.int (iI n) :: rest))) : W p l e R s m args below meth c H locs cells slots Q (F0 m pc ls rest) := lv_sipush hexec hb hdg hv k
theorem zv_iadd (hexec : p.tables.exec = Jvm.exec) (hb : c.code = cc) {x y : Int} (hdg : decode cc pc = .ok (.iadd, 1))
    (k : W p l e R s m args below meth c H locs cells slots Q (F0 m (pc + 1) ls (.int (iI (x + y)) :: rest))) : W p l e R s m args below meth c H locs cells slots Q (F0 m pc ls (.int (iI y) :: .int (iI x) :: rest)) := lv_iadd hexec hb hdg (by rw [iI_add]; exact k)
theorem zv_isub (hexec : p.tables.exec = Jvm.exec) (hb : c.code = cc) {x y : Int} (hdg : decode cc pc = .ok (.isub, 1))
    (k : W p l e R s m args below meth c H locs cells slots Q (F0 m (pc + 1) ls (.int (iI (x - y)) :: rest))) : W p l e R s m args below meth c H locs cells slots Q (F0 m pc ls (.int (iI y) :: .int (iI x) :: rest)) := lv_isub hexec hb hdg (by rw [iI_sub]; exact k)
theorem zv_imul (hexec : p.tables.exec = Jvm.exec) (hb : c.code = cc) {x y : Int} (hdg : decode cc pc = .ok (.imul, 1))
    (k : W p l e R s m args below meth c H locs cells slots Q (F0 m (pc + 1) ls (.int (iI (x * y)) :: rest))) : W p l e R s m args below meth c H locs cells slots Q (F0 m pc ls (.int (iI y) :: .int (iI x) :: rest)) := lv_imul hexec hb hdg (by rw [iI_mul]; exact k)
theorem zv_idiv (hexec : p.tables.exec = Jvm.exec) (hb : c.code = cc) {x y : Int} (hdg : decode cc pc = .ok (.idiv, 1)) (h1 : 0 ≤ x) (h2 : x < 2147483648) (h3 : 0 < y) (h4 : y < 2147483648)
    (k : W p l e R s m args below meth c H locs cells slots Q (F0 m (pc + 1) ls (.int (iI (x / y)) :: rest))) : W p l e R s m args below meth c H locs cells slots Q (F0 m pc ls (.int (iI y) :: .int (iI x) :: rest)) :=
  lv_idiv hexec hb hdg (fun z => absurd ((iI_eq ⟨by omega, h4⟩ ⟨by omega, by omega⟩).mp (z.trans iI_0.symm)) (by omega)) (by rw [iI_div h1 h2 h3 h4]; exact k)
theorem zv_irem (hexec : p.tables.exec = Jvm.exec) (hb : c.code = cc) {x y : Int} (hdg : decode cc pc = .ok (.irem, 1)) (h1 : 0 ≤ x) (h2 : x < 2147483648) (h3 : 0 < y) (h4 : y < 2147483648)
    (k : W p l e R s m args below meth c H locs cells slots Q (F0 m (pc + 1) ls (.int (iI (x % y)) :: rest))) : W p l e R s m args below meth c H locs cells slots Q (F0 m pc ls (.int (iI y) :: .int (iI x) :: rest)) :=
  lv_irem hexec hb hdg (fun z => absurd ((iI_eq ⟨by omega, h4⟩ ⟨by omega, by omega⟩).mp (z.trans iI_0.symm)) (by omega)) (by rw [iI_rem h1 h2 h3 h4]; exact k)
theorem zv_ixor1 (hexec : p.tables.exec = Jvm.exec) (hb : c.code = cc) {x : Int} (hdg : decode cc pc = .ok (.ixor, 1)) (h1 : 0 ≤ x) (h2 : x ≤ 5)
    (k : W p l e R s m args below meth c H locs cells slots Q (F0 m (pc + 1) ls (.int (iI (oppZ x)) :: rest))) : W p l e R s m args below meth c H locs cells slots Q (F0 m pc ls (.int (iI 1) :: .int (iI x) :: rest)) := lv_ixor hexec hb hdg (by rw [iI_xor1 h1 h2]; exact k)
theorem zv_iinc (hexec : p.tables.exec = Jvm.exec) (hb : c.code = cc) {i nL k : Nat} {n x : Int} {lv lv' : List (Nat × Value)} (hdg : decode cc pc = .ok (.iinc i n, 3)) (h : lv_has ls nL lv) (hk : lv[k]? = some (i, .int (iI x))) (hn : i < nL) (hl : (i, Value.int (iI (x + n))) :: lv.filter (fun q => !(q.1 == i) && !(q.1 + 1 == i && q.2.category == 2)) = lv')
    (kk : ∀ ls' : Array Slot, lv_has ls' nL lv' → W p l e R s m args below meth c H locs cells slots Q (F0 m (pc + 3) ls' rest)) : W p l e R s m args below meth c H locs cells slots Q (F0 m pc ls rest) := lv_iinc hexec hb hdg h hk (iI_add x n) hn hl kk
/-- another term for the top of the stack -/
theorem zv_top {x y : Int} (h : x = y) (k : W p l e R s m args below meth c H locs cells slots Q (F0 m pc ls (.int (iI y) :: rest))) : W p l e R s m args below meth c H locs cells slots Q (F0 m pc ls (.int (iI x) :: rest)) := h ▸ k
theorem zv_nam {x : Int} (k : ∀ y : Int, y = x → W p l e R s m args below meth c H locs cells slots Q (F0 m pc ls (.int (iI y) :: rest))) : W p l e R s m args below meth c H locs cells slots Q (F0 m pc ls (.int (iI x) :: rest)) := k x rfl
theorem zv_icmp_eq (hexec : p.tables.exec = Jvm.exec) (hb : c.code = cc) {x y : Int} {off : Int} {tgt : Nat} (hdg : decode cc pc = .ok (.if_icmp .eq off, 3)) (ht : (pc : Int) + off = (tgt : Int)) (h1 : InR x) (h2 : InR y)
    (kt : x = y → W p l e R s m args below meth c H locs cells slots Q (F0 m tgt ls rest)) (kf : ¬ x = y → W p l e R s m args below meth c H locs cells slots Q (F0 m (pc + 3) ls rest)) : W p l e R s m args below meth c H locs cells slots Q (F0 m pc ls (.int (iI y) :: .int (iI x) :: rest)) :=
  lv_icmp_eq hexec hb hdg ht (fun h => kt ((iI_eq h1 h2).mp h)) (fun h => kf fun z => h ((iI_eq h1 h2).mpr z))
theorem zv_icmp_ne (hexec : p.tables.exec = Jvm.exec) (hb : c.code = cc) {x y : Int} {off : Int} {tgt : Nat} (hdg : decode cc pc = .ok (.if_icmp .ne off, 3)) (ht : (pc : Int) + off = (tgt : Int)) (h1 : InR x) (h2 : InR y)
    (kt : ¬ x = y → W p l e R s m args below meth c H locs cells slots Q (F0 m tgt ls rest)) (kf : x = y → W p l e R s m args below meth c H locs cells slots Q (F0 m (pc + 3) ls rest)) : W p l e R s m args below meth c H locs cells slots Q (F0 m pc ls (.int (iI y) :: .int (iI x) :: rest)) :=
  lv_icmp_ne hexec hb hdg ht (fun h => kt fun z => h ((iI_eq h1 h2).mpr z)) (fun h => kf ((iI_eq h1 h2).mp h))
theorem zv_icmp_lt (hexec : p.tables.exec = Jvm.exec) (hb : c.code = cc) {x y : Int} {off : Int} {tgt : Nat} (hdg : decode cc pc = .ok (.if_icmp .lt off, 3)) (ht : (pc : Int) + off = (tgt : Int)) (h1 : InR x) (h2 : InR y)
    (kt : x < y → W p l e R s m args below meth c H locs cells slots Q (F0 m tgt ls rest)) (kf : ¬ x < y → W p l e R s m args below meth c H locs cells slots Q (F0 m (pc + 3) ls rest)) : W p l e R s m args below meth c H locs cells slots Q (F0 m pc ls (.int (iI y) :: .int (iI x) :: rest)) :=
  lv_icmp_lt hexec hb hdg ht (fun h => kt ((iI_lt h1 h2).mp h)) (fun h => kf fun z => h ((iI_lt h1 h2).mpr z))
theorem zv_icmp_ge (hexec : p.tables.exec = Jvm.exec) (hb : c.code = cc) {x y : Int} {off : Int} {tgt : Nat} (hdg : decode cc pc = .ok (.if_icmp .ge off, 3)) (ht : (pc : Int) + off = (tgt : Int)) (h1 : InR x) (h2 : InR y)
    (kt : y ≤ x → W p l e R s m args below meth c H locs cells slots Q (F0 m tgt ls rest)) (kf : ¬ y ≤ x → W p l e R s m args below meth c H locs cells slots Q (F0 m (pc + 3) ls rest)) : W p l e R s m args below meth c H locs cells slots Q (F0 m pc ls (.int (iI y) :: .int (iI x) :: rest)) :=
  lv_icmp_ge hexec hb hdg ht (fun h => kt ((iI_le h2 h1).mp h)) (fun h => kf fun z => h ((iI_le h2 h1).mpr z))
theorem zv_icmp_gt (hexec : p.tables.exec = Jvm.exec) (hb : c.code = cc) {x y : Int} {off : Int} {tgt : Nat} (hdg : decode cc pc = .ok (.if_icmp .gt off, 3)) (ht : (pc : Int) + off = (tgt : Int)) (h1 : InR x) (h2 : InR y)
    (kt : y < x → W p l e R s m args below meth c H locs cells slots Q (F0 m tgt ls rest)) (kf : ¬ y < x → W p l e R s m args below meth c H locs cells slots Q (F0 m (pc + 3) ls rest)) : W p l e R s m args below meth c H locs cells slots Q (F0 m pc ls (.int (iI y) :: .int (iI x) :: rest)) :=
  lv_icmp_gt hexec hb hdg ht (fun h => kt ((iI_lt h2 h1).mp h)) (fun h => kf fun z => h ((iI_lt h2 h1).mpr z))
theorem zv_icmp_le (hexec : p.tables.exec = Jvm.exec) (hb : c.code = cc) {x y : Int} {off : Int} {tgt : Nat} (hdg : decode cc pc = .ok (.if_icmp .le off, 3)) (ht : (pc : Int) + off = (tgt : Int)) (h1 : InR x) (h2 : InR y)
    (kt : x ≤ y → W p l e R s m args below meth c H locs cells slots Q (F0 m tgt ls rest)) (kf : ¬ x ≤ y → W p l e R s m args below meth c H locs cells slots Q (F0 m (pc + 3) ls rest)) : W p l e R s m args below meth c H locs cells slots Q (F0 m pc ls (.int (iI y) :: .int (iI x) :: rest)) :=
  lv_icmp_le hexec hb hdg ht (fun h => kt ((iI_le h1 h2).mp h)) (fun h => kf fun z => h ((iI_le h1 h2).mpr z))
theorem zv_if_eq (hexec : p.tables.exec = Jvm.exec) (hb : c.code = cc) {x : Int} {off : Int} {tgt : Nat} (hdg : decode cc pc = .ok (.ifCond .eq off, 3)) (ht : (pc : Int) + off = (tgt : Int)) (h1 : InR x)
    (kt : x = 0 → W p l e R s m args below meth c H locs cells slots Q (F0 m tgt ls rest)) (kf : ¬ x = 0 → W p l e R s m args below meth c H locs cells slots Q (F0 m (pc + 3) ls rest)) : W p l e R s m args below meth c H locs cells slots Q (F0 m pc ls (.int (iI x) :: rest)) :=
  lv_if_eq hexec hb hdg ht (fun h => kt ((iI_eq h1 ⟨by omega, by omega⟩).mp (h.trans iI_0.symm))) (fun h => kf fun z => h (((iI_eq h1 ⟨by omega, by omega⟩).mpr z).trans iI_0))
theorem zv_if_ne (hexec : p.tables.exec = Jvm.exec) (hb : c.code = cc) {x : Int} {off : Int} {tgt : Nat} (hdg : decode cc pc = .ok (.ifCond .ne off, 3)) (ht : (pc : Int) + off = (tgt : Int)) (h1 : InR x)
    (kt : ¬ x = 0 → W p l e R s m args below meth c H locs cells slots Q (F0 m tgt ls rest)) (kf : x = 0 → W p l e R s m args below meth c H locs cells slots Q (F0 m (pc + 3) ls rest)) : W p l e R s m args below meth c H locs cells slots Q (F0 m pc ls (.int (iI x) :: rest)) :=
  lv_if_ne hexec hb hdg ht (fun h => kt fun z => h (((iI_eq h1 ⟨by omega, by omega⟩).mpr z).trans iI_0)) (fun h => kf ((iI_eq h1 ⟨by omega, by omega⟩).mp (h.trans iI_0.symm)))
theorem zv_if_lt (hexec : p.tables.exec = Jvm.exec) (hb : c.code = cc) {x : Int} {off : Int} {tgt : Nat} (hdg : decode cc pc = .ok (.ifCond .lt off, 3)) (ht : (pc : Int) + off = (tgt : Int)) (h1 : InR x)
    (kt : x < 0 → W p l e R s m args below meth c H locs cells slots Q (F0 m tgt ls rest)) (kf : ¬ x < 0 → W p l e R s m args below meth c H locs cells slots Q (F0 m (pc + 3) ls rest)) : W p l e R s m args below meth c H locs cells slots Q (F0 m pc ls (.int (iI x) :: rest)) :=
  lv_if_lt hexec hb hdg ht (fun h => kt ((iI_lt h1 ⟨by omega, by omega⟩).mp (by rw [iI_0]; exact h))) (fun h => kf fun z => h (by rw [← iI_0]; exact (iI_lt h1 ⟨by omega, by omega⟩).mpr z))
theorem zv_if_ge (hexec : p.tables.exec = Jvm.exec) (hb : c.code = cc) {x : Int} {off : Int} {tgt : Nat} (hdg : decode cc pc = .ok (.ifCond .ge off, 3)) (ht : (pc : Int) + off = (tgt : Int)) (h1 : InR x)
    (kt : 0 ≤ x → W p l e R s m args below meth c H locs cells slots Q (F0 m tgt ls rest)) (kf : ¬ 0 ≤ x → W p l e R s m args below meth c H locs cells slots Q (F0 m (pc + 3) ls rest)) : W p l e R s m args below meth c H locs cells slots Q (F0 m pc ls (.int (iI x) :: rest)) :=
  lv_if_ge hexec hb hdg ht (fun h => kt ((iI_le ⟨by omega, by omega⟩ h1).mp (by rw [iI_0]; exact h))) (fun h => kf fun z => h (by rw [← iI_0]; exact (iI_le ⟨by omega, by omega⟩ h1).mpr z))
theorem zv_if_gt (hexec : p.tables.exec = Jvm.exec) (hb : c.code = cc) {x : Int} {off : Int} {tgt : Nat} (hdg : decode cc pc = .ok (.ifCond .gt off, 3)) (ht : (pc : Int) + off = (tgt : Int)) (h1 : InR x)
    (kt : 0 < x → W p l e R s m args below meth c H locs cells slots Q (F0 m tgt ls rest)) (kf : ¬ 0 < x → W p l e R s m args below meth c H locs cells slots Q (F0 m (pc + 3) ls rest)) : W p l e R s m args below meth c H locs cells slots Q (F0 m pc ls (.int (iI x) :: rest)) :=
  lv_if_gt hexec hb hdg ht (fun h => kt ((iI_lt ⟨by omega, by omega⟩ h1).mp (by rw [iI_0]; exact h))) (fun h => kf fun z => h (by rw [← iI_0]; exact (iI_lt ⟨by omega, by omega⟩ h1).mpr z))
theorem zv_if_le (hexec : p.tables.exec = Jvm.exec) (hb : c.code = cc) {x : Int} {off : Int} {tgt : Nat} (hdg : decode cc pc = .ok (.ifCond .le off, 3)) (ht : (pc : Int) + off = (tgt : Int)) (h1 : InR x)
    (kt : x ≤ 0 → W p l e R s m args below meth c H locs cells slots Q (F0 m tgt ls rest)) (kf : ¬ x ≤ 0 → W p l e R s m args below meth c H locs cells slots Q (F0 m (pc + 3) ls rest)) : W p l e R s m args below meth c H locs cells slots Q (F0 m pc ls (.int (iI x) :: rest)) :=
  lv_if_le hexec hb hdg ht (fun h => kt ((iI_le h1 ⟨by omega, by omega⟩).mp (by rw [iI_0]; exact h))) (fun h => kf fun z => h (by rw [← iI_0]; exact (iI_le h1 ⟨by omega, by omega⟩).mpr z))
theorem zv_iald (hexec : p.tables.exec = Jvm.exec) (hb : c.code = cc) {tys : List (ClassId × FieldType)} (hK : va_K D vwCl tys s) (hP : va_P D vwCl ws H) (q0 t0 : Nat) {cA : ClassId} {n : Nat} {g : Nat → Int} (ha : ws[q0]? = some (a, .inl (cA, n, .inl (aI g)))) (ht : tys[t0]? = some (cA, .int)) {i : Int} (h0 : 0 ≤ i) (h1 : i < n) (hn : n < 2147483648) (hdg : decode cc pc = .ok (.iaload, 1))
    (kk : W p l e R s m args below meth c H locs cells slots Q (F0 m (pc + 1) ls (.int (iI (g i.toNat)) :: rest))) : W p l e R s m args below meth c H locs cells slots Q (F0 m pc ls (.int (iI i) :: .ref a :: rest)) :=
  va_iald hexec hb hK hP q0 t0 ha ht (iI_in h0 h1 hn) hdg (by rw [iI_clamp h0 (by omega)]; exact kk)
theorem zv_iast (hexec : p.tables.exec = Jvm.exec) (hb : c.code = cc) {tys : List (ClassId × FieldType)} {H0 : Heap} (hK : va_K D vwCl tys s) (hP : va_P D vwCl ws H) (hD : va_D A ws) (hS : va_S A H0 H locs) (q0 t0 : Nat) {cA : ClassId} {n : Nat} {g : Nat → Int} (ha : ws[q0]? = some (a, .inl (cA, n, .inl (aI g)))) (ht : tys[t0]? = some (cA, .int)) {i x : Int} (h0 : 0 ≤ i) (h1 : i < n) (hn : n < 2147483648) {ws' : va_W} (hw : ws.set q0 (a, .inl (cA, n, .inl (aI (updZ g i.toNat x)))) = ws') (hdg : decode cc pc = .ok (.iastore, 1))
    (kk : ∀ (H1 : Heap) (locs1 : List Loc), va_P D vwCl ws' H1 → va_D A ws' → va_S A H0 H1 locs1 → W p l e R s m args below meth c H1 locs1 cells slots Q (F0 m (pc + 1) ls rest)) : W p l e R s m args below meth c H locs cells slots Q (F0 m pc ls (.int (iI x) :: .int (iI i) :: .ref a :: rest)) := by
  refine va_iast hexec hb hK hP hD hS q0 t0 ha ht (iI_in h0 h1 hn) hdg (fun H1 locs1 k1 k2 k3 => ?_)
  rw [iI_clamp h0 (by omega), aI_upd, hw] at k1 k2
  exact kk H1 locs1 k1 k2 k3
theorem zv_alen (hexec : p.tables.exec = Jvm.exec) (hb : c.code = cc) {tys : List (ClassId × FieldType)} (hK : va_K D vwCl tys s) (hP : va_P D vwCl ws H) (q0 t0 : Nat) {cA : ClassId} {n : Nat} {g : Nat → Int} (ha : ws[q0]? = some (a, .inl (cA, n, .inl (aI g)))) (ht : tys[t0]? = some (cA, .int)) (hdg : decode cc pc = .ok (.arraylength, 1))
    (kk : W p l e R s m args below meth c H locs cells slots Q (F0 m (pc + 1) ls (.int (iI (n : Int)) :: rest))) : W p l e R s m args below meth c H locs cells slots Q (F0 m pc ls (.ref a :: rest)) :=
  va_alen hexec hb hK hP q0 t0 ha ht (v := iI (n : Int)) (by show Int32.ofNat n = Int32.ofInt n; exact (Int32.ofInt_eq_ofNat).symm) hdg kk
end ZV
end
section
/-! what every method's start says of the tables: the classes, the arrays' classes, the nest's links -/
def nestT : List (String × Nat × MethodName) := [(RX2, 11, yX1_init), (RX0, 39, yX2_squareOf), (RX0, 42, yX2_columnOf), (RX0, 45, yX2_rowOf), (RX0, 48, yX2_wordOf), (RX0, 65, yX2_squareAt), (RX0, 73, yX2_placeOf), (RX0, 76, yX2_withLetter), (RX0, 79, yX2_oppositeOf)]
def NN (U : State) : Prop := ∀ t ∈ nestT, va_Nw (.methodLinkNest t.1 t.2.1 t.2.2 "Tetherline") U
abbrev aT (cI cJ : ClassId) : List (ClassId × FieldType) := [(cI, .int), (cJ, .long)]
def KK (D : va_G) (cI cJ : ClassId) (U : State) : Prop := va_K D vwCl (aT cI cJ) U ∧ NN U
theorem NN.warm {s U : State} (hW : s.WarmedH U.vm) (h : NN s) : NN U := fun t ht => va_Nw.warmM hW (h t ht)
theorem NN.same {s U : State} (hv : s.vm = U.vm) (h : NN s) : NN U := fun t ht => va_Nw.same rfl hv (h t ht)
theorem KK.warm {D : va_G} {cI cJ : ClassId} {s U : State} (hW : s.WarmedH U.vm) (h : KK D cI cJ s) : KK D cI cJ U := ⟨va_K.moved hW.alike h.1, h.2.warm hW⟩
theorem KK.calling {D : va_G} {cI cJ : ClassId} {U : State} {g : JFrame} {mk : MethodId} {a : Array Value} (h : KK D cI cJ U) : KK D cI cJ (U.calling g mk a) := ⟨va_K.moved (u := U) (U := U.calling g mk a) (Vm.Alike.refl U.vm) h.1, h.2.same rfl⟩
def lvl (k : Nat) : Room := { frames := k, cells := 0, slots := 0, locals := 64 * k }
/-- a method that only reads the cells ws, and answers an int -/
def PPre (D : va_G) (cI cJ : ClassId) (ws : va_W) : State → Prop := fun U => KK D cI cJ U ∧ va_P D vwCl ws U.heap
def PQ (post : Int → Prop) : Array Value → State → Outcome → State → Prop := fun _ st o t => (∃ r : Int, o = .returned (some (.int (iI r))) ∧ post r) ∧ t.heap = st.heap
def PM (l : Launch) (y : MethodName) (cd : Cond) (k : Nat) (As : List Value) (D : va_G) (cI cJ : ClassId) (ws : va_W) (post : Int → Prop) : Prop :=
  Met l y (cd :: GW) (lvl k) (va_Pc As (PPre D cI cJ ws)) (PQ post) 0 0 (fun _ => False)
theorem PM_blind {As : List Value} {D : va_G} {cI cJ : ClassId} {ws : va_W} : FrameBlind (va_Pc As (PPre D cI cJ ws)) := fun a U g mk q => ⟨q.1, q.2.1.calling, q.2.2⟩
theorem PM_of {l : Launch} {y : MethodName} {k : Nat} {As : List Value} {D : va_G} {cI cJ : ClassId} {ws : va_W} {post : Int → Prop} {cc : ByteArray} {maxL : Nat} {ret : Option FieldType} {own : String}
    (hy : plainName y.cls = true) (ho : y.cls = own) (hn : (lg_sl As).length ≤ maxL)
    (body : ∀ (p : Program) (e : Env) (s : State) (m : MethodId) (below : List Frame) (meth : Method) (c : Code) (ls : Array Slot), p.tables.exec = Jvm.exec → c.code = cc → meth.sig.returnType = ret → (∀ w ∈ GW, w.before As.toArray s = true) → s.vm.findClass own = some m.cls → meth.locks = false → c.maxLocals = maxL → KK D cI cJ s → va_P D vwCl ws s.heap → lv_has ls maxL (lv_args 0 As) →
      W p l e (lvl k) s m As.toArray below meth c s.heap [] 0 0 (MQ below (PQ post) As.toArray s 0 0 (fun _ => False)) (F0 m 0 ls [])) : PM l y (.code y cc maxL ret) k As D cI cJ ws post := by
  refine Met.ofW (cc := cc) (maxL := maxL) (ret := ret) hy rfl ?_
  intro p e s m args below meth c s₁ B hml hv
  obtain ⟨rfl, hK, hP⟩ := hv
  have hts := atoms_spec (ws := Cond.code y cc maxL ret :: GW) B.pre
  have hl := lv_entry As (n := maxL) hn
  rw [lg_entry_eq]
  exact body p e s m below meth c _ B.exec B.bytes B.returns (fun w h => hts w (List.mem_cons_of_mem _ h)) (by rw [← ho]; exact findClass_of_methodNamed B.named) B.notSynchronized hml hK hP hl
section PC
variable {p : Program} {l : Launch} {e : Env} {R : Room} {s : State} {m : MethodId} {args : Array Value} {below : List Frame} {meth : Method} {c : Code} {H : Heap} {locs : List Loc} {cells slots : Nat} {Q : State → Prop}
variable {cc : ByteArray} {pc : Nat} {ls : Array Slot} {rest st : List Value} {D : va_G} {cI cJ : ClassId}
theorem PM_iret {post : Int → Prop} {x : Int} (hexec : p.tables.exec = Jvm.exec) (hb : c.code = cc) (hr : meth.sig.returnType = some .int) (hlocks : meth.locks = false) (hdg : decode cc pc = .ok (.ireturn, 1)) (hq : post x) :
    W p l e R s m args below meth c s.heap [] 0 0 (MQ below (PQ post) args s 0 0 (fun _ => False)) (F0 m pc ls [.int (iI x)]) :=
  W.iret hexec hb hr (fun t ht hW => ⟨⟨x, rfl, hq⟩, ht⟩) (fun _ h => nomatch h) hdg hlocks
theorem PM_zret {post : Int → Prop} {x : Int} (hexec : p.tables.exec = Jvm.exec) (hb : c.code = cc) (hr : meth.sig.returnType = some .boolean) (hlocks : meth.locks = false) (hdg : decode cc pc = .ok (.ireturn, 1)) (hn : narrow .boolean (.int (iI x)) = .int (iI x)) (hq : post x) :
    W p l e R s m args below meth c s.heap [] 0 0 (MQ below (PQ post) args s 0 0 (fun _ => False)) (F0 m pc ls [.int (iI x)]) :=
  W.zret hexec hb hr hn (fun t ht hW => ⟨⟨x, rfl, hq⟩, ht⟩) (fun _ h => nomatch h) hdg hlocks
theorem PM_goes {y : MethodName} {cd : Cond} {k : Nat} {As : List Value} {ws : va_W} {post : Int → Prop} {a : Array Value} (hr : va_Run p l e R s m args below meth c H locs cells slots 0 0 (F0 m pc ls st) rest (PQ post a) (fun _ => False))
    (kk : ∀ r : Int, post r → W p l e R s m args below meth c H locs cells slots Q (F0 m (pc + 3) ls (.int (iI r) :: rest))) : W p l e R s m args below meth c H locs cells slots Q (F0 m pc ls st) := by
  intro T hT X
  obtain ⟨v, st₀, t, T', L, h0, X', hL, e1, e2, ⟨⟨r, hv, hp⟩, hh⟩, hg⟩ := hr T hT X
  cases hv
  obtain ⟨t2, a1, b1⟩ := kk r hp T' (by rw [e1, hh, h0]) (Stand.forget X' (fun q h => (hL q h).elim))
  exact ⟨t2, hg t2 a1, b1⟩
/-- a call of a reading method on an object of the world -/
theorem zc_V {y : MethodName} {bytes : ByteArray} {maxL index k n : Nat} {ret : Option FieldType} {own C : String} {b : Addr} {As : List Value} {ws ws' : va_W} {post : Int → Prop} (hexec : p.tables.exec = Jvm.exec) (hb : c.code = cc) (hml : c.maxLocals = ls.size) (hts : ∀ w ∈ GW, w.before args s = true) (hown : s.vm.findClass own = some m.cls) (hK : KK D cI cJ s) (hP : va_P D vwCl ws H)
    (hM : PM l y (.code y bytes maxL ret) k (.ref b :: As) D cI cJ ws' post) (hG : GoodIn GW (wsV own index C y (.code y bytes maxL ret :: GW))) (hd : y.cls = C ∧ y.cls ≠ "java/lang/invoke/MethodHandle" ∧ y.cls ≠ "java/lang/invoke/VarHandle" ∧ (parseMethodDescriptor y.desc).map (fun d => d.parameters.length) = some n) (hn : As.length = n)
    (hR : k + 1 ≤ R.frames ∧ 8 + (maxL + 11) + 64 * k ≤ R.locals) (hf : cells ≤ R.cells ∧ slots ≤ R.slots) (pl : List Nat) (hs : pl.filterMap (fun i => ws[i]?) = ws') (q0 : Nat) {ci : Nat} {fs : List Value} {q : vw_C} (hc : vwCl[ci]? = some q) (hq : q.1 = C) (he : ws[q0]? = some (b, .inr (ci, fs))) (hst : st = As.reverse ++ .ref b :: rest) (hW : (rest.map fun v => v.category).sum ≤ 8) (hdg : decode cc pc = .ok (.invokevirtual index, 3))
    (kk : ∀ r : Int, post r → W p l e R s m args below meth c H locs cells slots Q (F0 m (pc + 3) ls (.int (iI r) :: rest))) : W p l e R s m args below meth c H locs cells slots Q (F0 m pc ls st) := by
  have hr := va_recv hK.1 hP hc he
  rw [hq] at hr
  refine PM_goes (y := y) (cd := .code y bytes maxL ret) (k := k) (As := .ref b :: As) (ws := ws') (va_runV (C := C) (As := As) (rest := rest) (nL := ls.size) ⟨hexec, hb, hml, hown, hts⟩ hM (cwV n hts hG rfl rfl rfl hd hR) ⟨PM_blind, hr, fun U hU hW => ⟨rfl, hK.warm hW, by rw [hU]; exact hP.sub pl hs⟩⟩ rfl hn rfl hst (lv_room hW) hdg hf) kk
/-- a call of a static one of the same class, which reads nothing -/
theorem zc_S {y : MethodName} {bytes : ByteArray} {maxL index k n : Nat} {ret : Option FieldType} {own : String} {As : List Value} {ws ws' : va_W} {post : Int → Prop} (hexec : p.tables.exec = Jvm.exec) (hb : c.code = cc) (hml : c.maxLocals = ls.size) (hts : ∀ w ∈ GW, w.before args s = true) (hown : s.vm.findClass own = some m.cls) (hK : KK D cI cJ s) (hP : va_P D vwCl ws H)
    (hM : PM l y (.code y bytes maxL ret) k As D cI cJ ws' post) (hG : GoodIn GW (wsS own index y (.code y bytes maxL ret :: GW))) (hd : y.cls = own ∧ y.cls ≠ "java/lang/invoke/MethodHandle" ∧ y.cls ≠ "java/lang/invoke/VarHandle" ∧ (parseMethodDescriptor y.desc).map (fun d => d.parameters.length) = some n) (hn : As.length = n)
    (hR : k + 1 ≤ R.frames ∧ 8 + (maxL + 11) + 64 * k ≤ R.locals) (hf : cells ≤ R.cells ∧ slots ≤ R.slots) (pl : List Nat) (hs : pl.filterMap (fun i => ws[i]?) = ws') (hst : st = As.reverse ++ rest) (hW : (rest.map fun v => v.category).sum ≤ 8) (hdg : decode cc pc = .ok (.invokestatic index, 3))
    (kk : ∀ r : Int, post r → W p l e R s m args below meth c H locs cells slots Q (F0 m (pc + 3) ls (.int (iI r) :: rest))) : W p l e R s m args below meth c H locs cells slots Q (F0 m pc ls st) :=
  PM_goes (y := y) (cd := .code y bytes maxL ret) (k := k) (As := As) (ws := ws') (va_runS (As := As) (rest := rest) (nL := ls.size) ⟨hexec, hb, hml, hown, hts⟩ hM (cwS n hts hG rfl rfl rfl hd hR) ⟨PM_blind, fun U hU hW => ⟨rfl, hK.warm hW, by rw [hU]; exact hP.sub pl hs⟩⟩ rfl hn rfl hst (lv_room hW) hdg hf) kk
/-- .. a private static one of a nest mate -/
theorem zc_SN {y : MethodName} {bytes : ByteArray} {maxL index k n : Nat} {ret : Option FieldType} {own : String} {As : List Value} {ws ws' : va_W} {post : Int → Prop} (hexec : p.tables.exec = Jvm.exec) (hb : c.code = cc) (hml : c.maxLocals = ls.size) (hts : ∀ w ∈ GW, w.before args s = true) (hown : s.vm.findClass own = some m.cls) (hK : KK D cI cJ s) (hP : va_P D vwCl ws H)
    (hM : PM l y (.code y bytes maxL ret) k As D cI cJ ws' post) (hcd : Cond.code y bytes maxL ret ∈ GW) (hsta : Cond.static y ∈ GW) (hini : Cond.initialized y.cls ∈ GW) (hnt : (own, index, y) ∈ nestT) (hd : y.cls ≠ "java/lang/invoke/MethodHandle" ∧ y.cls ≠ "java/lang/invoke/VarHandle" ∧ (parseMethodDescriptor y.desc).map (fun d => d.parameters.length) = some n) (hn : As.length = n)
    (hR : k + 1 ≤ R.frames ∧ 8 + (maxL + 11) + 64 * k ≤ R.locals) (hf : cells ≤ R.cells ∧ slots ≤ R.slots) (pl : List Nat) (hs : pl.filterMap (fun i => ws[i]?) = ws') (hst : st = As.reverse ++ rest) (hW : (rest.map fun v => v.category).sum ≤ 8) (hdg : decode cc pc = .ok (.invokestatic index, 3))
    (kk : ∀ r : Int, post r → W p l e R s m args below meth c H locs cells slots Q (F0 m (pc + 3) ls (.int (iI r) :: rest))) : W p l e R s m args below meth c H locs cells slots Q (F0 m pc ls st) :=
  PM_goes (y := y) (cd := .code y bytes maxL ret) (k := k) (As := As) (ws := ws') (va_runSN (host := "Tetherline") (As := As) (rest := rest) (nL := ls.size) ⟨hexec, hb, hml, hown, hts⟩ hM ⟨va_cnB n hts (gw_good (gw_cons hcd fun _ h => h)) rfl rfl rfl (hK.2 _ hnt) (hts _ hini) hd hR, hts _ hsta, trivial⟩ ⟨PM_blind, fun U hU hW => ⟨rfl, hK.warm hW, by rw [hU]; exact hP.sub pl hs⟩⟩ rfl hn rfl hst (lv_room hW) hdg hf) kk
end PC
theorem gd_V {own C : String} {idx : Nat} {y : MethodName} {cd : Cond} (h1 : Cond.methodLink own idx y ∈ GW) (h2 : Cond.instanceMethod y ∈ GW) (h3 : Cond.selects C y y ∈ GW) (h4 : Cond.initialized C ∈ GW) (h5 : cd ∈ GW) : GoodIn GW (wsV own idx C y (cd :: GW)) :=
  gw_good (gw_cons h1 (gw_cons h2 (gw_cons h3 (gw_cons h4 (gw_cons h5 fun _ h => h)))))
theorem gd_S {own : String} {idx : Nat} {y : MethodName} {cd : Cond} (h1 : Cond.methodLink own idx y ∈ GW) (h2 : Cond.static y ∈ GW) (h4 : Cond.initialized own ∈ GW) (h5 : cd ∈ GW) : GoodIn GW (wsS own idx y (cd :: GW)) :=
  gw_good (gw_cons h1 (gw_cons h2 (gw_cons h4 (gw_cons h5 fun _ h => h))))
end
section
section ZJ
variable {p : Program} {l : Launch} {e : Env} {R : Room} {s : State} {m : MethodId} {args : Array Value} {below : List Frame} {meth : Method} {c : Code} {H : Heap} {locs : List Loc} {cells slots : Nat} {Q : State → Prop}
variable {pc : Nat} {ls : Array Slot} {rest : List Value}
theorem zj_max {cc : ByteArray} (hexec : p.tables.exec = Jvm.exec) (hb : c.code = cc) (hml : c.maxLocals = ls.size) {own : String} {index : Nat} (hown : s.vm.findClass own = some m.cls) (hlink : (Cond.methodLink own index Lib.Math.max.name).before args s = true) (hstat : (Cond.static Lib.Math.max.name).before args s = true) (hini : (Cond.initialized "java/lang/Math").before args s = true) (hcode : (Cond.code Lib.Math.max.name Lib.Math.max.code 2 (some .int)).before args s = true)
    (hframes : 1 ≤ R.frames) (hlocals : (rest.map fun v => v.category).sum + 13 ≤ R.locals) (hc : cells ≤ R.cells) (hs : slots ≤ R.slots) {x y : Int} (h1 : InR x) (h2 : InR y) (hdg : decode cc pc = .ok (.invokestatic index, 3))
    (kk : W p l e R s m args below meth c H locs cells slots Q (F0 m (pc + 3) ls (.int (iI (if x < y then y else x)) :: rest))) : W p l e R s m args below meth c H locs cells slots Q (F0 m pc ls (.int (iI y) :: .int (iI x) :: rest)) := by
  refine va_mmax hexec hb hml hown hlink hstat hini hcode hframes hlocals hc hs hdg ?_
  have e : (if iI x < iI y then iI y else iI x) = iI (if x < y then y else x) := by
    by_cases h : x < y
    · rw [if_pos h, if_pos ((iI_lt h1 h2).mpr h)]
    · rw [if_neg h, if_neg (fun z => h ((iI_lt h1 h2).mp z))]
  rw [e]
  exact kk
theorem zj_min {cc : ByteArray} (hexec : p.tables.exec = Jvm.exec) (hb : c.code = cc) (hml : c.maxLocals = ls.size) {own : String} {index : Nat} (hown : s.vm.findClass own = some m.cls) (hlink : (Cond.methodLink own index Lib.Math.min.name).before args s = true) (hstat : (Cond.static Lib.Math.min.name).before args s = true) (hini : (Cond.initialized "java/lang/Math").before args s = true) (hcode : (Cond.code Lib.Math.min.name Lib.Math.min.code 2 (some .int)).before args s = true)
    (hframes : 1 ≤ R.frames) (hlocals : (rest.map fun v => v.category).sum + 13 ≤ R.locals) (hc : cells ≤ R.cells) (hs : slots ≤ R.slots) {x y : Int} (h1 : InR x) (h2 : InR y) (hdg : decode cc pc = .ok (.invokestatic index, 3))
    (kk : W p l e R s m args below meth c H locs cells slots Q (F0 m (pc + 3) ls (.int (iI (if y < x then y else x)) :: rest))) : W p l e R s m args below meth c H locs cells slots Q (F0 m pc ls (.int (iI y) :: .int (iI x) :: rest)) := by
  refine va_mmin hexec hb hml hown hlink hstat hini hcode hframes hlocals hc hs hdg ?_
  have e : (if iI y < iI x then iI y else iI x) = iI (if y < x then y else x) := by
    by_cases h : y < x
    · rw [if_pos h, if_pos ((iI_lt h2 h1).mpr h)]
    · rw [if_neg h, if_neg (fun z => h ((iI_lt h2 h1).mp z))]
  rw [e]
  exact kk
theorem zj_abs {cc : ByteArray} (hexec : p.tables.exec = Jvm.exec) (hb : c.code = cc) (hml : c.maxLocals = ls.size) {own : String} {index : Nat} (hown : s.vm.findClass own = some m.cls) (hlink : (Cond.methodLink own index Lib.Math.abs.name).before args s = true) (hstat : (Cond.static Lib.Math.abs.name).before args s = true) (hini : (Cond.initialized "java/lang/Math").before args s = true) (hcode : (Cond.code Lib.Math.abs.name Lib.Math.abs.code 1 (some .int)).before args s = true)
    (hframes : 1 ≤ R.frames) (hlocals : (rest.map fun v => v.category).sum + 13 ≤ R.locals) (hc : cells ≤ R.cells) (hs : slots ≤ R.slots) {x : Int} (h1 : InR x) (hdg : decode cc pc = .ok (.invokestatic index, 3))
    (kk : W p l e R s m args below meth c H locs cells slots Q (F0 m (pc + 3) ls (.int (iI (if 0 ≤ x then x else 0 - x)) :: rest))) : W p l e R s m args below meth c H locs cells slots Q (F0 m pc ls (.int (iI x) :: rest)) := by
  refine va_mabs hexec hb hml hown hlink hstat hini hcode hframes hlocals hc hs hdg ?_
  have e : (if 0 ≤ iI x then iI x else 0 - iI x) = iI (if 0 ≤ x then x else 0 - x) := by
    by_cases h : 0 ≤ x
    · rw [if_pos h, if_pos (by rw [← iI_0]; exact (iI_le ⟨by omega, by omega⟩ h1).mpr h)]
    · rw [if_neg h, if_neg (fun z => h ((iI_le ⟨by omega, by omega⟩ h1).mp (by rw [iI_0]; exact z))), ← iI_0, iI_sub]
  rw [e]
  exact kk
end ZJ
/-! words as integers: a letter is put behind a word -/
def wjZ (w k : Int) : Int := if w % 7 - 1 = oppZ k then w / 7 else w * 7 + k + 1
theorem wjZ_b {w k B : Int} (h0 : 0 ≤ w) (h : w < B) (hk : 0 ≤ k) (hk5 : k ≤ 5) : 0 ≤ wjZ w k ∧ wjZ w k < 7 * B := by
  unfold wjZ
  split <;> omega
theorem oppZ_b {k : Int} (hk : 0 ≤ k) (hk5 : k ≤ 5) : 0 ≤ oppZ k ∧ oppZ k ≤ 5 := by
  unfold oppZ
  split <;> omega
theorem oppZ_opp {k : Int} (hk : 0 ≤ k) (hk5 : k ≤ 5) : oppZ (oppZ k) = k := by
  unfold oppZ
  split <;> split <;> omega
/-- the floor: columns, rows, the pillars' numbers by their squares (7 * column + row), -1 for none -/
def FlOK (C R np : Int) (N : Int → Int) (gn : Nat → Int) : Prop := 3 ≤ C ∧ C ≤ 7 ∧ 3 ≤ R ∧ R ≤ 7 ∧ 0 ≤ np ∧ np ≤ 3 ∧ (∀ k : Nat, k < 49 → gn k = N (k : Int)) ∧ ∀ z : Int, N z = -1 ∨ (0 ≤ N z ∧ N z < np ∧ 0 ≤ z ∧ z < 49)
theorem FlOK.N2 {C R np : Int} {N : Int → Int} {gn : Nat → Int} (h : FlOK C R np N gn) (z : Int) : -1 ≤ N z ∧ N z ≤ 2 := by
  obtain ⟨-, -, -, -, -, h6, -, h8⟩ := h
  rcases h8 z with h | h <;> omega
theorem FlOK.Nout {C R np : Int} {N : Int → Int} {gn : Nat → Int} (h : FlOK C R np N gn) (z : Int) (hz : z < 0 ∨ 49 ≤ z) : N z = -1 := by
  obtain ⟨-, -, -, -, -, -, -, h8⟩ := h
  rcases h8 z with h | h <;> omega
theorem FlOK.gn {C R np : Int} {N : Int → Int} {gn : Nat → Int} (h : FlOK C R np N gn) {z : Int} (h0 : 0 ≤ z) (h1 : z < 49) : gn z.toNat = N z := by
  obtain ⟨-, -, -, -, -, -, h7, -⟩ := h
  rw [h7 z.toNat (by omega), Int.toNat_of_nonneg h0]
def plZ (C R : Int) (N : Int → Int) (a b w : Int) : Int := if w < 343 ∧ 0 ≤ a ∧ a < C ∧ 0 ≤ b ∧ b < R ∧ N (a * 7 + b) = -1 then (a * 7 + b) * 343 + w else -1
def stR (N : Int → Int) (c r w : Int) : Int := if N (c * 7 + r) = -1 then w else wjZ w (2 * N (c * 7 + r))
def stL (N : Int → Int) (c r w : Int) : Int := if N (c * 7 + r) = -1 then w else wjZ w (oppZ (2 * N (c * 7 + r)))
def wRn (N : Int → Int) (c : Int) : Nat → Int → Int → Int
  | 0, _, w => w
  | n + 1, b, w => stR N c (b + n) (wRn N c n b w)
def wLn (N : Int → Int) (c : Int) : Nat → Int → Int → Int
  | 0, _, w => w
  | n + 1, b, w => wLn N c n b (stL N c (b + n) w)
def wRZ (N : Int → Int) (R c r w : Int) : Int := wRn N c (R - 1 - r).toNat (r + 1) w
def wLZ (N : Int → Int) (R c r w : Int) : Int := wLn N c (R - 1 - r).toNat (r + 1) w
def pw7 : Nat → Int
  | 0 => 343
  | n + 1 => 7 * pw7 n
theorem pw7_le : ∀ n : Nat, n ≤ 7 → pw7 n ≤ 282475249 := by
  intro n hn
  have h : n = 0 ∨ n = 1 ∨ n = 2 ∨ n = 3 ∨ n = 4 ∨ n = 5 ∨ n = 6 ∨ n = 7 := by omega
  rcases h with rfl | rfl | rfl | rfl | rfl | rfl | rfl | rfl <;> decide
theorem stR_b {C R np : Int} {N : Int → Int} {gn : Nat → Int} (hF : FlOK C R np N gn) {c r w B : Int} (h0 : 0 ≤ w) (h : w < B) : 0 ≤ stR N c r w ∧ stR N c r w < 7 * B := by
  unfold stR
  have h2 := hF.N2 (c * 7 + r)
  split
  · omega
  · exact wjZ_b h0 h (by omega) (by omega)
theorem stL_b {C R np : Int} {N : Int → Int} {gn : Nat → Int} (hF : FlOK C R np N gn) {c r w B : Int} (h0 : 0 ≤ w) (h : w < B) : 0 ≤ stL N c r w ∧ stL N c r w < 7 * B := by
  unfold stL
  have h2 := hF.N2 (c * 7 + r)
  split
  · omega
  · have := oppZ_b (k := 2 * N (c * 7 + r)) (by omega) (by omega)
    exact wjZ_b h0 h this.1 this.2
theorem wRn_b {C R np : Int} {N : Int → Int} {gn : Nat → Int} (hF : FlOK C R np N gn) {c w : Int} (h0 : 0 ≤ w) (h : w < 343) : ∀ (n : Nat) (b : Int), 0 ≤ wRn N c n b w ∧ wRn N c n b w < pw7 n := by
  intro n b
  induction n with
  | zero => exact ⟨h0, h⟩
  | succ n ih => exact stR_b hF ih.1 ih.2
theorem wLn_b {C R np : Int} {N : Int → Int} {gn : Nat → Int} (hF : FlOK C R np N gn) {c : Int} : ∀ (n j : Nat) (b w : Int), 0 ≤ w → w < pw7 j → 0 ≤ wLn N c n b w ∧ wLn N c n b w < pw7 (j + n) := by
  intro n
  induction n with
  | zero => intro j b w h0 h; exact ⟨h0, h⟩
  | succ n ih =>
    intro j b w h0 h
    have h2 := stL_b hF (c := c) (r := b + n) h0 h
    have h3 := ih (j + 1) b _ h2.1 h2.2
    rw [show j + (n + 1) = j + 1 + n by omega]
    exact h3
/-- the place to which a step leads in a walk, -1 for none: a place is 343 * square + word -/
def aftZ (C R : Int) (N : Int → Int) (p d : Int) : Int :=
  if d = 0 then plZ C R N (p / 343 / 7) (p / 343 % 7 - 1) (p % 343)
  else if d = 1 then plZ C R N (p / 343 / 7 + 1) (p / 343 % 7) (wRZ N R (p / 343 / 7) (p / 343 % 7) (p % 343))
  else if d = 2 then plZ C R N (p / 343 / 7) (p / 343 % 7 + 1) (p % 343)
  else plZ C R N (p / 343 / 7 - 1) (p / 343 % 7) (wLZ N R (p / 343 / 7 - 1) (p / 343 % 7) (p % 343))
def lenZ (w : Int) : Int := if w = 0 then 0 else if w < 7 then 1 else if w < 49 then 2 else 3
def absZ (z : Int) : Int := if 0 ≤ z then z else 0 - z
end
section
section ZSW
variable {p : Program} {l : Launch} {e : Env} {R : Room} {s : State} {m : MethodId} {args : Array Value} {below : List Frame} {meth : Method} {c : Code} {H : Heap} {locs : List Loc} {cells slots : Nat} {Q : State → Prop}
variable {cc : ByteArray} {pc : Nat} {ls : Array Slot} {rest : List Value}
theorem zv_tableOut (hexec : p.tables.exec = Jvm.exec) (hb : c.code = cc) {dflt lo hi : Int} {offs : Array Int} {len : Nat} {z : Int} {tgt : Nat} (hdg : decode cc pc = .ok (.tableswitch dflt lo hi offs, len)) (hz : InR z) (h : z < lo ∨ hi < z) (ht : (pc : Int) + dflt = (tgt : Int))
    (k : W p l e R s m args below meth c H locs cells slots Q (F0 m tgt ls rest)) : W p l e R s m args below meth c H locs cells slots Q (F0 m pc ls (.int (iI z) :: rest)) := lv_tableOut hexec hb hdg (by rw [iI_int hz]; exact h) ht k
theorem zv_tableIn (hexec : p.tables.exec = Jvm.exec) (hb : c.code = cc) {dflt lo hi : Int} {offs : Array Int} {len : Nat} {z : Int} {off : Int} {tgt : Nat} (hdg : decode cc pc = .ok (.tableswitch dflt lo hi offs, len)) (hz : InR z) (h1 : ¬ z < lo) (h2 : ¬ hi < z) (ho : offs[(z - lo).toNat]? = some off) (ht : (pc : Int) + off = (tgt : Int))
    (k : W p l e R s m args below meth c H locs cells slots Q (F0 m tgt ls rest)) : W p l e R s m args below meth c H locs cells slots Q (F0 m pc ls (.int (iI z) :: rest)) := lv_tableIn hexec hb hdg (by rw [iI_int hz]; exact h1) (by rw [iI_int hz]; exact h2) (by rw [iI_int hz]; exact ho) ht k
end ZSW
theorem aftZ_0 (C R : Int) (N : Int → Int) (p : Int) : aftZ C R N p 0 = plZ C R N (p / 343 / 7) (p / 343 % 7 - 1) (p % 343) := by unfold aftZ; rw [if_pos rfl]
theorem aftZ_1 (C R : Int) (N : Int → Int) (p : Int) : aftZ C R N p 1 = plZ C R N (p / 343 / 7 + 1) (p / 343 % 7) (wRZ N R (p / 343 / 7) (p / 343 % 7) (p % 343)) := by unfold aftZ; rw [if_neg (by decide), if_pos rfl]
theorem aftZ_2 (C R : Int) (N : Int → Int) (p : Int) : aftZ C R N p 2 = plZ C R N (p / 343 / 7) (p / 343 % 7 + 1) (p % 343) := by unfold aftZ; rw [if_neg (by decide), if_neg (by decide), if_pos rfl]
theorem aftZ_3 (C R : Int) (N : Int → Int) (p : Int) : aftZ C R N p 3 = plZ C R N (p / 343 / 7 - 1) (p / 343 % 7) (wLZ N R (p / 343 / 7 - 1) (p / 343 % 7) (p % 343)) := by unfold aftZ; rw [if_neg (by decide), if_neg (by decide), if_neg (by decide)]
theorem wRZ_b {C R np : Int} {N : Int → Int} {gn : Nat → Int} (hF : FlOK C R np N gn) {c r w : Int} (hr : 0 ≤ r) (h0 : 0 ≤ w) (h : w < 343) : 0 ≤ wRZ N R c r w ∧ wRZ N R c r w < 282475249 := by
  have h1 := wRn_b hF (c := c) h0 h (R - 1 - r).toNat (r + 1)
  have h2 := pw7_le (R - 1 - r).toNat (by obtain ⟨-, -, -, h4, -⟩ := hF; omega)
  unfold wRZ
  omega
theorem wLZ_b {C R np : Int} {N : Int → Int} {gn : Nat → Int} (hF : FlOK C R np N gn) {c r w : Int} (hr : 0 ≤ r) (h0 : 0 ≤ w) (h : w < 343) : 0 ≤ wLZ N R c r w ∧ wLZ N R c r w < 282475249 := by
  have h1 := wLn_b hF (c := c) (R - 1 - r).toNat 0 (r + 1) w h0 h
  rw [Nat.zero_add] at h1
  have h2 := pw7_le (R - 1 - r).toNat (by obtain ⟨-, -, -, h4, -⟩ := hF; omega)
  unfold wLZ
  omega
end
section
set_option maxRecDepth 100000 in
set_option maxHeartbeats 4000000 in
theorem c_X2_squareAt (l : Launch) (D : va_G) (cI cJ : ClassId) (a b : Int) : PM l yX2_squareAt (.code yX2_squareAt cX2_squareAt 2 (some .int)) 0 [.int (iI a), .int (iI b)] D cI cJ [] (fun r => r = a * 7 + b) := by
  refine PM_of (by decide) rfl (Nat.le_of_ble_eq_true rfl) (fun p e s m below meth c ls hx hb hr hts hown hlk hml hK hP hl => ?_)
  have hl : lv_has ls 2 [(0, .int (iI a)), (1, .int (iI b))] := hl
  refine lv_iload_n hx hb dX2_squareAt_0 rfl (lv_at hl 0 rfl) ?_
  refine zv_bipush hx hb dX2_squareAt_1 (by decide) ?_
  refine zv_imul hx hb dX2_squareAt_3 ?_
  refine lv_iload_n hx hb dX2_squareAt_4 rfl (lv_at hl 1 rfl) ?_
  refine zv_iadd hx hb dX2_squareAt_5 ?_
  exact PM_iret hx hb hr hlk dX2_squareAt_6 (by first | rfl | omega)
set_option maxRecDepth 100000 in
set_option maxHeartbeats 4000000 in
theorem c_X2_columnOf (l : Launch) (D : va_G) (cI cJ : ClassId) (q : Int) (hq0 : 0 ≤ q) (hq1 : q < 2147483648) : PM l yX2_columnOf (.code yX2_columnOf cX2_columnOf 1 (some .int)) 0 [.int (iI q)] D cI cJ [] (fun r => r = q / 7) := by
  refine PM_of (by decide) rfl (Nat.le_of_ble_eq_true rfl) (fun p e s m below meth c ls hx hb hr hts hown hlk hml hK hP hl => ?_)
  have hl : lv_has ls 1 [(0, .int (iI q))] := hl
  refine lv_iload_n hx hb dX2_columnOf_0 rfl (lv_at hl 0 rfl) ?_
  refine zv_bipush hx hb dX2_columnOf_1 (by decide) ?_
  refine zv_idiv hx hb dX2_columnOf_3 (by omega) (by omega) (by omega) (by omega) ?_
  exact PM_iret hx hb hr hlk dX2_columnOf_4 (by first | rfl | omega)
set_option maxRecDepth 100000 in
set_option maxHeartbeats 4000000 in
theorem c_X2_rowOf (l : Launch) (D : va_G) (cI cJ : ClassId) (q : Int) (hq0 : 0 ≤ q) (hq1 : q < 2147483648) : PM l yX2_rowOf (.code yX2_rowOf cX2_rowOf 1 (some .int)) 0 [.int (iI q)] D cI cJ [] (fun r => r = q % 7) := by
  refine PM_of (by decide) rfl (Nat.le_of_ble_eq_true rfl) (fun p e s m below meth c ls hx hb hr hts hown hlk hml hK hP hl => ?_)
  have hl : lv_has ls 1 [(0, .int (iI q))] := hl
  refine lv_iload_n hx hb dX2_rowOf_0 rfl (lv_at hl 0 rfl) ?_
  refine zv_bipush hx hb dX2_rowOf_1 (by decide) ?_
  refine zv_irem hx hb dX2_rowOf_3 (by omega) (by omega) (by omega) (by omega) ?_
  exact PM_iret hx hb hr hlk dX2_rowOf_4 (by first | rfl | omega)
set_option maxRecDepth 100000 in
set_option maxHeartbeats 4000000 in
theorem c_X2_placeOf (l : Launch) (D : va_G) (cI cJ : ClassId) (q w : Int) : PM l yX2_placeOf (.code yX2_placeOf cX2_placeOf 2 (some .int)) 0 [.int (iI q), .int (iI w)] D cI cJ [] (fun r => r = q * 343 + w) := by
  refine PM_of (by decide) rfl (Nat.le_of_ble_eq_true rfl) (fun p e s m below meth c ls hx hb hr hts hown hlk hml hK hP hl => ?_)
  have hl : lv_has ls 2 [(0, .int (iI q)), (1, .int (iI w))] := hl
  refine lv_iload_n hx hb dX2_placeOf_0 rfl (lv_at hl 0 rfl) ?_
  refine zv_sipush hx hb dX2_placeOf_1 (by decide) ?_
  refine zv_imul hx hb dX2_placeOf_4 ?_
  refine lv_iload_n hx hb dX2_placeOf_5 rfl (lv_at hl 1 rfl) ?_
  refine zv_iadd hx hb dX2_placeOf_6 ?_
  exact PM_iret hx hb hr hlk dX2_placeOf_7 (by first | rfl | omega)
set_option maxRecDepth 100000 in
set_option maxHeartbeats 4000000 in
theorem c_X2_squareOf (l : Launch) (D : va_G) (cI cJ : ClassId) (q : Int) (hq0 : 0 ≤ q) (hq1 : q < 2147483648) : PM l yX2_squareOf (.code yX2_squareOf cX2_squareOf 1 (some .int)) 0 [.int (iI q)] D cI cJ [] (fun r => r = q / 343) := by
  refine PM_of (by decide) rfl (Nat.le_of_ble_eq_true rfl) (fun p e s m below meth c ls hx hb hr hts hown hlk hml hK hP hl => ?_)
  have hl : lv_has ls 1 [(0, .int (iI q))] := hl
  refine lv_iload_n hx hb dX2_squareOf_0 rfl (lv_at hl 0 rfl) ?_
  refine zv_sipush hx hb dX2_squareOf_1 (by decide) ?_
  refine zv_idiv hx hb dX2_squareOf_4 (by omega) (by omega) (by omega) (by omega) ?_
  exact PM_iret hx hb hr hlk dX2_squareOf_5 (by first | rfl | omega)
set_option maxRecDepth 100000 in
set_option maxHeartbeats 4000000 in
theorem c_X2_wordOf (l : Launch) (D : va_G) (cI cJ : ClassId) (q : Int) (hq0 : 0 ≤ q) (hq1 : q < 2147483648) : PM l yX2_wordOf (.code yX2_wordOf cX2_wordOf 1 (some .int)) 0 [.int (iI q)] D cI cJ [] (fun r => r = q % 343) := by
  refine PM_of (by decide) rfl (Nat.le_of_ble_eq_true rfl) (fun p e s m below meth c ls hx hb hr hts hown hlk hml hK hP hl => ?_)
  have hl : lv_has ls 1 [(0, .int (iI q))] := hl
  refine lv_iload_n hx hb dX2_wordOf_0 rfl (lv_at hl 0 rfl) ?_
  refine zv_sipush hx hb dX2_wordOf_1 (by decide) ?_
  refine zv_irem hx hb dX2_wordOf_4 (by omega) (by omega) (by omega) (by omega) ?_
  exact PM_iret hx hb hr hlk dX2_wordOf_5 (by first | rfl | omega)
set_option maxRecDepth 100000 in
set_option maxHeartbeats 4000000 in
theorem c_X2_lastLetterOf (l : Launch) (D : va_G) (cI cJ : ClassId) (w : Int) (hw0 : 0 ≤ w) (hw1 : w < 2147483648) : PM l yX2_lastLetterOf (.code yX2_lastLetterOf cX2_lastLetterOf 1 (some .int)) 0 [.int (iI w)] D cI cJ [] (fun r => r = w % 7 - 1) := by
  refine PM_of (by decide) rfl (Nat.le_of_ble_eq_true rfl) (fun p e s m below meth c ls hx hb hr hts hown hlk hml hK hP hl => ?_)
  have hl : lv_has ls 1 [(0, .int (iI w))] := hl
  refine lv_iload_n hx hb dX2_lastLetterOf_0 rfl (lv_at hl 0 rfl) ?_
  refine zv_bipush hx hb dX2_lastLetterOf_1 (by decide) ?_
  refine zv_irem hx hb dX2_lastLetterOf_3 (by omega) (by omega) (by omega) (by omega) ?_
  refine zv_iconst hx hb dX2_lastLetterOf_4 ?_
  refine zv_isub hx hb dX2_lastLetterOf_5 ?_
  exact PM_iret hx hb hr hlk dX2_lastLetterOf_6 (by first | rfl | omega)
set_option maxRecDepth 100000 in
set_option maxHeartbeats 4000000 in
theorem c_X2_oppositeOf (l : Launch) (D : va_G) (cI cJ : ClassId) (k : Int) (hk0 : 0 ≤ k) (hk1 : k < 6) : PM l yX2_oppositeOf (.code yX2_oppositeOf cX2_oppositeOf 1 (some .int)) 0 [.int (iI k)] D cI cJ [] (fun r => r = oppZ k) := by
  refine PM_of (by decide) rfl (Nat.le_of_ble_eq_true rfl) (fun p e s m below meth c ls hx hb hr hts hown hlk hml hK hP hl => ?_)
  have hl : lv_has ls 1 [(0, .int (iI k))] := hl
  refine lv_iload_n hx hb dX2_oppositeOf_0 rfl (lv_at hl 0 rfl) ?_
  refine zv_iconst hx hb dX2_oppositeOf_1 ?_
  refine zv_ixor1 hx hb dX2_oppositeOf_2 (by omega) (by omega) ?_
  exact PM_iret hx hb hr hlk dX2_oppositeOf_3 (by first | rfl | omega)
set_option maxRecDepth 100000 in
set_option maxHeartbeats 4000000 in
theorem c_X2_withLetter (l : Launch) (D : va_G) (cI cJ : ClassId) (w k : Int) (hw0 : 0 ≤ w) (hw1 : w < 2147483648) (hk0 : 0 ≤ k) (hk1 : k < 6) : PM l yX2_withLetter (.code yX2_withLetter cX2_withLetter 2 (some .int)) 1 [.int (iI w), .int (iI k)] D cI cJ [] (fun r => r = wjZ w k) := by
  refine PM_of (by decide) rfl (Nat.le_of_ble_eq_true rfl) (fun p e s m below meth c ls hx hb hr hts hown hlk hml hK hP hl => ?_)
  have hl : lv_has ls 2 [(0, .int (iI w)), (1, .int (iI k))] := hl
  refine lv_iload_n hx hb dX2_withLetter_0 rfl (lv_at hl 0 rfl) ?_
  refine zc_S (As := [.int (iI w)]) (rest := []) (ws := []) (n := 1) hx hb (hml.trans hl.1.symm) hts hown hK hP (c_X2_lastLetterOf l D cI cJ w (by omega) (by omega)) (gd_S q_138 q_139 q_1 q_140) (by decide +kernel) rfl ⟨Nat.le_of_ble_eq_true rfl, Nat.le_of_ble_eq_true rfl⟩ ⟨Nat.zero_le _, Nat.zero_le _⟩ [] rfl rfl (Nat.le_of_ble_eq_true rfl) dX2_withLetter_1 (fun r_1 hr_1 => ?_)
  subst hr_1
  refine lv_iload_n hx hb dX2_withLetter_4 rfl (lv_at hl 1 rfl) ?_
  refine zc_S (As := [.int (iI k)]) (rest := [.int (iI (w % 7 - 1))]) (ws := []) (n := 1) hx hb (hml.trans hl.1.symm) hts hown hK hP (c_X2_oppositeOf l D cI cJ k (by omega) (by omega)) (gd_S q_141 q_142 q_1 q_143) (by decide +kernel) rfl ⟨Nat.le_of_ble_eq_true rfl, Nat.le_of_ble_eq_true rfl⟩ ⟨Nat.zero_le _, Nat.zero_le _⟩ [] rfl rfl (Nat.le_of_ble_eq_true rfl) dX2_withLetter_5 (fun r_2 hr_2 => ?_)
  subst hr_2
  have hop := oppZ_b (k := k) (by omega) (by omega)
  refine zv_icmp_ne hx hb dX2_withLetter_8 (tgt := 16) (by decide) ⟨by omega, by omega⟩ ⟨by omega, by omega⟩ (fun c_3 => ?_) (fun c_3 => ?_)
  · refine lv_iload_n hx hb dX2_withLetter_16 rfl (lv_at hl 0 rfl) ?_
    refine zv_bipush hx hb dX2_withLetter_17 (by decide) ?_
    refine zv_imul hx hb dX2_withLetter_19 ?_
    refine lv_iload_n hx hb dX2_withLetter_20 rfl (lv_at hl 1 rfl) ?_
    refine zv_iadd hx hb dX2_withLetter_21 ?_
    refine zv_iconst hx hb dX2_withLetter_22 ?_
    refine zv_iadd hx hb dX2_withLetter_23 ?_
    exact PM_iret hx hb hr hlk dX2_withLetter_24 (by unfold wjZ; split <;> omega)
  · refine lv_iload_n hx hb dX2_withLetter_11 rfl (lv_at hl 0 rfl) ?_
    refine zv_bipush hx hb dX2_withLetter_12 (by decide) ?_
    refine zv_idiv hx hb dX2_withLetter_14 (by omega) (by omega) (by omega) (by omega) ?_
    exact PM_iret hx hb hr hlk dX2_withLetter_15 (by unfold wjZ; split <;> omega)
set_option maxRecDepth 100000 in
set_option maxHeartbeats 4000000 in
theorem c_X2_lettersOf (l : Launch) (D : va_G) (cI cJ : ClassId) (w : Int) (hw0 : 0 ≤ w) (hw1 : w < 343) : PM l yX2_lettersOf (.code yX2_lettersOf cX2_lettersOf 3 (some .int)) 0 [.int (iI w)] D cI cJ [] (fun r => r = lenZ w) := by
  refine PM_of (by decide) rfl (Nat.le_of_ble_eq_true rfl) (fun p e s m below meth c ls hx hb hr hts hown hlk hml hK hP hl => ?_)
  have hl : lv_has ls 3 [(0, .int (iI w))] := hl
  refine zv_iconst hx hb dX2_lettersOf_0 ?_
  refine lv_istore_n (lv' := [(1, .int (iI 0)), (0, .int (iI w))]) hx hb dX2_lettersOf_1 rfl hl (by decide) rfl (fun ls hl => ?_)
  refine lv_iload_n hx hb dX2_lettersOf_2 rfl (lv_at hl 1 rfl) ?_
  refine lv_istore_n (lv' := [(2, .int (iI w)), (1, .int (iI 0)), (0, .int (iI w))]) hx hb dX2_lettersOf_3 rfl hl (by decide) rfl (fun ls hl => ?_)
  refine lv_iload_n hx hb dX2_lettersOf_4 rfl (lv_at hl 0 rfl) ?_
  refine zv_if_le hx hb dX2_lettersOf_5 (tgt := 24) (by decide) ⟨by omega, by omega⟩ (fun c_1 => ?_) (fun c_1 => ?_)
  · refine lv_iload_n hx hb dX2_lettersOf_24 rfl (lv_at hl 1 rfl) ?_
    exact PM_iret hx hb hr hlk dX2_lettersOf_25 (by unfold lenZ; (repeat' split) <;> omega)
  · refine lv_iload_n hx hb dX2_lettersOf_8 rfl (lv_at hl 1 rfl) ?_
    refine zv_iconst hx hb dX2_lettersOf_9 ?_
    refine zv_icmp_ge hx hb dX2_lettersOf_10 (tgt := 24) (by decide) ⟨by omega, by omega⟩ ⟨by omega, by omega⟩ (fun c_2 => by exfalso; omega) (fun c_2 => ?_)
    refine lv_iload_n hx hb dX2_lettersOf_13 rfl (lv_at hl 0 rfl) ?_
    refine zv_bipush hx hb dX2_lettersOf_14 (by decide) ?_
    refine zv_idiv hx hb dX2_lettersOf_16 (by omega) (by omega) (by omega) (by omega) ?_
    refine lv_istore_n (lv' := [(2, .int (iI (w / 7))), (1, .int (iI 0)), (0, .int (iI w))]) hx hb dX2_lettersOf_17 rfl hl (by decide) rfl (fun ls hl => ?_)
    refine zv_iinc (k := 1) (lv' := [(1, .int (iI 1)), (2, .int (iI (w / 7))), (0, .int (iI w))]) hx hb dX2_lettersOf_18 hl rfl (by decide) rfl (fun ls hl => ?_)
    refine lv_goto (tgt := 4) hx hb dX2_lettersOf_21 (by decide) ?_
    refine lv_iload_n hx hb dX2_lettersOf_4 rfl (lv_at hl 1 rfl) ?_
    refine zv_if_le hx hb dX2_lettersOf_5 (tgt := 24) (by decide) ⟨by omega, by omega⟩ (fun c_3 => ?_) (fun c_3 => ?_)
    · refine lv_iload_n hx hb dX2_lettersOf_24 rfl (lv_at hl 0 rfl) ?_
      exact PM_iret hx hb hr hlk dX2_lettersOf_25 (by unfold lenZ; (repeat' split) <;> omega)
    · refine lv_iload_n hx hb dX2_lettersOf_8 rfl (lv_at hl 0 rfl) ?_
      refine zv_iconst hx hb dX2_lettersOf_9 ?_
      refine zv_icmp_ge hx hb dX2_lettersOf_10 (tgt := 24) (by decide) ⟨by omega, by omega⟩ ⟨by omega, by omega⟩ (fun c_4 => by exfalso; omega) (fun c_4 => ?_)
      refine lv_iload_n hx hb dX2_lettersOf_13 rfl (lv_at hl 1 rfl) ?_
      refine zv_bipush hx hb dX2_lettersOf_14 (by decide) ?_
      refine zv_idiv hx hb dX2_lettersOf_16 (by omega) (by omega) (by omega) (by omega) ?_
      refine lv_istore_n (lv' := [(2, .int (iI ((w / 7) / 7))), (1, .int (iI 1)), (0, .int (iI w))]) hx hb dX2_lettersOf_17 rfl hl (by decide) rfl (fun ls hl => ?_)
      refine zv_iinc (k := 1) (lv' := [(1, .int (iI 2)), (2, .int (iI ((w / 7) / 7))), (0, .int (iI w))]) hx hb dX2_lettersOf_18 hl rfl (by decide) rfl (fun ls hl => ?_)
      refine lv_goto (tgt := 4) hx hb dX2_lettersOf_21 (by decide) ?_
      refine lv_iload_n hx hb dX2_lettersOf_4 rfl (lv_at hl 1 rfl) ?_
      refine zv_if_le hx hb dX2_lettersOf_5 (tgt := 24) (by decide) ⟨by omega, by omega⟩ (fun c_5 => ?_) (fun c_5 => ?_)
      · refine lv_iload_n hx hb dX2_lettersOf_24 rfl (lv_at hl 0 rfl) ?_
        exact PM_iret hx hb hr hlk dX2_lettersOf_25 (by unfold lenZ; (repeat' split) <;> omega)
      · refine lv_iload_n hx hb dX2_lettersOf_8 rfl (lv_at hl 0 rfl) ?_
        refine zv_iconst hx hb dX2_lettersOf_9 ?_
        refine zv_icmp_ge hx hb dX2_lettersOf_10 (tgt := 24) (by decide) ⟨by omega, by omega⟩ ⟨by omega, by omega⟩ (fun c_6 => by exfalso; omega) (fun c_6 => ?_)
        refine lv_iload_n hx hb dX2_lettersOf_13 rfl (lv_at hl 1 rfl) ?_
        refine zv_bipush hx hb dX2_lettersOf_14 (by decide) ?_
        refine zv_idiv hx hb dX2_lettersOf_16 (by omega) (by omega) (by omega) (by omega) ?_
        refine lv_istore_n (lv' := [(2, .int (iI (((w / 7) / 7) / 7))), (1, .int (iI 2)), (0, .int (iI w))]) hx hb dX2_lettersOf_17 rfl hl (by decide) rfl (fun ls hl => ?_)
        refine zv_iinc (k := 1) (lv' := [(1, .int (iI 3)), (2, .int (iI (((w / 7) / 7) / 7))), (0, .int (iI w))]) hx hb dX2_lettersOf_18 hl rfl (by decide) rfl (fun ls hl => ?_)
        refine lv_goto (tgt := 4) hx hb dX2_lettersOf_21 (by decide) ?_
        refine lv_iload_n hx hb dX2_lettersOf_4 rfl (lv_at hl 1 rfl) ?_
        refine zv_if_le hx hb dX2_lettersOf_5 (tgt := 24) (by decide) ⟨by omega, by omega⟩ (fun c_7 => ?_) (fun c_7 => ?_)
        · refine lv_iload_n hx hb dX2_lettersOf_24 rfl (lv_at hl 0 rfl) ?_
          exact PM_iret hx hb hr hlk dX2_lettersOf_25 (by unfold lenZ; (repeat' split) <;> omega)
        · refine lv_iload_n hx hb dX2_lettersOf_8 rfl (lv_at hl 0 rfl) ?_
          refine zv_iconst hx hb dX2_lettersOf_9 ?_
          refine zv_icmp_ge hx hb dX2_lettersOf_10 (tgt := 24) (by decide) ⟨by omega, by omega⟩ ⟨by omega, by omega⟩ (fun c_8 => ?_) (fun c_8 => by exfalso; omega)
          refine lv_iload_n hx hb dX2_lettersOf_24 rfl (lv_at hl 0 rfl) ?_
          exact PM_iret hx hb hr hlk dX2_lettersOf_25 (by unfold lenZ; (repeat' split) <;> omega)
set_option maxRecDepth 100000 in
set_option maxHeartbeats 4000000 in
theorem c_X2_between (l : Launch) (D : va_G) (cI cJ : ClassId) (a b d : Int) (ha : InR a) (hb : InR b) (hd : InR d) : PM l yX2_between (.code yX2_between cX2_between 3 (some .int)) 1 [.int (iI a), .int (iI b), .int (iI d)] D cI cJ [] (fun r => r = (if a < (if d < b then d else b) then (if d < b then d else b) else a)) := by
  obtain ⟨ha1, ha2⟩ := ha
  obtain ⟨hb1, hb2⟩ := hb
  obtain ⟨hd1, hd2⟩ := hd
  refine PM_of (by decide) rfl (Nat.le_of_ble_eq_true rfl) (fun p e s m below meth c ls hx hb hr hts hown hlk hml hK hP hl => ?_)
  have hl : lv_has ls 3 [(0, .int (iI a)), (1, .int (iI b)), (2, .int (iI d))] := hl
  refine lv_iload_n hx hb dX2_between_0 rfl (lv_at hl 0 rfl) ?_
  refine lv_iload_n hx hb dX2_between_1 rfl (lv_at hl 1 rfl) ?_
  refine lv_iload_n hx hb dX2_between_2 rfl (lv_at hl 2 rfl) ?_
  refine zj_min hx hb (hml.trans hl.1.symm) hown (hts _ q_44) (hts _ q_45) (hts _ q_4) (hts _ q_46) (Nat.le_of_ble_eq_true rfl) (Nat.le_of_ble_eq_true rfl) (Nat.zero_le _) (Nat.zero_le _) ⟨by omega, by omega⟩ ⟨by omega, by omega⟩ dX2_between_3 ?_
  refine zj_max hx hb (hml.trans hl.1.symm) hown (hts _ q_47) (hts _ q_48) (hts _ q_4) (hts _ q_49) (Nat.le_of_ble_eq_true rfl) (Nat.le_of_ble_eq_true rfl) (Nat.zero_le _) (Nat.zero_le _) ⟨by omega, by omega⟩ ⟨by omega, by omega⟩ dX2_between_6 ?_
  exact PM_iret hx hb hr hlk dX2_between_9 (by first | rfl | omega)
set_option maxRecDepth 100000 in
set_option maxHeartbeats 4000000 in
theorem c_X2_apart (l : Launch) (D : va_G) (cI cJ : ClassId) (a b : Int) (ha0 : 0 ≤ a) (ha1 : a < 49) (hb0 : 0 ≤ b) (hb1 : b < 49) : PM l yX2_apart (.code yX2_apart cX2_apart 2 (some .int)) 1 [.int (iI a), .int (iI b)] D cI cJ [] (fun r => r = absZ (a / 7 - b / 7) + absZ (a % 7 - b % 7)) := by
  refine PM_of (by decide) rfl (Nat.le_of_ble_eq_true rfl) (fun p e s m below meth c ls hx hb hr hts hown hlk hml hK hP hl => ?_)
  have hl : lv_has ls 2 [(0, .int (iI a)), (1, .int (iI b))] := hl
  refine lv_iload_n hx hb dX2_apart_0 rfl (lv_at hl 0 rfl) ?_
  refine zc_S (As := [.int (iI a)]) (rest := []) (ws := []) (n := 1) hx hb (hml.trans hl.1.symm) hts hown hK hP (c_X2_columnOf l D cI cJ a (by omega) (by omega)) (gd_S q_184 q_105 q_1 q_106) (by decide +kernel) rfl ⟨Nat.le_of_ble_eq_true rfl, Nat.le_of_ble_eq_true rfl⟩ ⟨Nat.zero_le _, Nat.zero_le _⟩ [] rfl rfl (Nat.le_of_ble_eq_true rfl) dX2_apart_1 (fun r_1 hr_1 => ?_)
  subst hr_1
  refine lv_iload_n hx hb dX2_apart_4 rfl (lv_at hl 1 rfl) ?_
  refine zc_S (As := [.int (iI b)]) (rest := [.int (iI (a / 7))]) (ws := []) (n := 1) hx hb (hml.trans hl.1.symm) hts hown hK hP (c_X2_columnOf l D cI cJ b (by omega) (by omega)) (gd_S q_184 q_105 q_1 q_106) (by decide +kernel) rfl ⟨Nat.le_of_ble_eq_true rfl, Nat.le_of_ble_eq_true rfl⟩ ⟨Nat.zero_le _, Nat.zero_le _⟩ [] rfl rfl (Nat.le_of_ble_eq_true rfl) dX2_apart_5 (fun r_2 hr_2 => ?_)
  subst hr_2
  refine zv_isub hx hb dX2_apart_8 ?_
  refine zj_abs hx hb (hml.trans hl.1.symm) hown (hts _ q_444) (hts _ q_445) (hts _ q_4) (hts _ q_446) (Nat.le_of_ble_eq_true rfl) (Nat.le_of_ble_eq_true rfl) (Nat.zero_le _) (Nat.zero_le _) ⟨by omega, by omega⟩ dX2_apart_9 ?_
  refine lv_iload_n hx hb dX2_apart_12 rfl (lv_at hl 0 rfl) ?_
  refine zc_S (As := [.int (iI a)]) (rest := [.int (iI (if 0 ≤ (a / 7 - b / 7) then (a / 7 - b / 7) else 0 - (a / 7 - b / 7)))]) (ws := []) (n := 1) hx hb (hml.trans hl.1.symm) hts hown hK hP (c_X2_rowOf l D cI cJ a (by omega) (by omega)) (gd_S q_189 q_108 q_1 q_109) (by decide +kernel) rfl ⟨Nat.le_of_ble_eq_true rfl, Nat.le_of_ble_eq_true rfl⟩ ⟨Nat.zero_le _, Nat.zero_le _⟩ [] rfl rfl (Nat.le_of_ble_eq_true rfl) dX2_apart_13 (fun r_3 hr_3 => ?_)
  subst hr_3
  refine lv_iload_n hx hb dX2_apart_16 rfl (lv_at hl 1 rfl) ?_
  refine zc_S (As := [.int (iI b)]) (rest := [.int (iI (a % 7)), .int (iI (if 0 ≤ (a / 7 - b / 7) then (a / 7 - b / 7) else 0 - (a / 7 - b / 7)))]) (ws := []) (n := 1) hx hb (hml.trans hl.1.symm) hts hown hK hP (c_X2_rowOf l D cI cJ b (by omega) (by omega)) (gd_S q_189 q_108 q_1 q_109) (by decide +kernel) rfl ⟨Nat.le_of_ble_eq_true rfl, Nat.le_of_ble_eq_true rfl⟩ ⟨Nat.zero_le _, Nat.zero_le _⟩ [] rfl rfl (Nat.le_of_ble_eq_true rfl) dX2_apart_17 (fun r_4 hr_4 => ?_)
  subst hr_4
  refine zv_isub hx hb dX2_apart_20 ?_
  refine zj_abs hx hb (hml.trans hl.1.symm) hown (hts _ q_444) (hts _ q_445) (hts _ q_4) (hts _ q_446) (Nat.le_of_ble_eq_true rfl) (Nat.le_of_ble_eq_true rfl) (Nat.zero_le _) (Nat.zero_le _) ⟨by omega, by omega⟩ dX2_apart_21 ?_
  refine zv_iadd hx hb dX2_apart_24 ?_
  exact PM_iret hx hb hr hlk dX2_apart_25 (by first | rfl | omega)
set_option maxRecDepth 100000 in
set_option maxHeartbeats 4000000 in
theorem c_X0_has (l : Launch) (D : va_G) (cI cJ : ClassId) (fl pn : Nat) (C R np : Int) (gn : Nat → Int) (N : Int → Int) (a b : Int) (hF : FlOK C R np N gn) (ha1 : -2147483648 ≤ a) (ha2 : a < 2147483648) (hb1 : -2147483648 ≤ b) (hb2 : b < 2147483648) : PM l yX0_has (.code yX0_has cX0_has 3 (some .boolean)) 0 [.ref fl, .int (iI a), .int (iI b)] D cI cJ [(fl, .inr (0, [.int (iI C), .int (iI R), .ref pn, .int (iI np)])), (pn, .inl (cI, 49, .inl (aI gn)))] (fun r => (r = 1 ∧ (0 ≤ a ∧ a < C ∧ 0 ≤ b ∧ b < R)) ∨ (r = 0 ∧ ¬ (0 ≤ a ∧ a < C ∧ 0 ≤ b ∧ b < R))) := by
  obtain ⟨hC1, hC2, hR1, hR2, hp1, hp2, -, -⟩ := id hF
  refine PM_of (by decide) rfl (Nat.le_of_ble_eq_true rfl) (fun p e s m below meth c ls hx hb hr hts hown hlk hml hK hP hl => ?_)
  have hl : lv_has ls 3 [(0, .ref fl), (1, .int (iI a)), (2, .int (iI b))] := hl
  refine lv_iload_n hx hb dX0_has_0 rfl (lv_at hl 1 rfl) ?_
  refine zv_if_lt hx hb dX0_has_1 (tgt := 28) (by decide) ⟨by omega, by omega⟩ (fun c_1 => ?_) (fun c_1 => ?_)
  · refine zv_iconst hx hb dX0_has_28 ?_
    exact PM_zret hx hb hr hlk dX0_has_29 (by first | rfl | decide) (by omega)
  · refine lv_iload_n hx hb dX0_has_4 rfl (lv_at hl 1 rfl) ?_
    refine lv_aload_n hx hb dX0_has_5 rfl (lv_at hl 0 rfl) ?_
    refine va_get (D := D) (ci := 0) (v := .int (iI C)) (C := RX0) (T := TX0) (N := 4) hx hb hts uX0 hown hK.1 hP 0 rfl rfl 0 (by decide) (hts _ q_57) (fun _ h9 => h9) rfl dX0_has_6 ?_
    refine zv_icmp_ge hx hb dX0_has_9 (tgt := 28) (by decide) ⟨by omega, by omega⟩ ⟨by omega, by omega⟩ (fun c_2 => ?_) (fun c_2 => ?_)
    · refine zv_iconst hx hb dX0_has_28 ?_
      exact PM_zret hx hb hr hlk dX0_has_29 (by first | rfl | decide) (by omega)
    · refine lv_iload_n hx hb dX0_has_12 rfl (lv_at hl 2 rfl) ?_
      refine zv_if_lt hx hb dX0_has_13 (tgt := 28) (by decide) ⟨by omega, by omega⟩ (fun c_3 => ?_) (fun c_3 => ?_)
      · refine zv_iconst hx hb dX0_has_28 ?_
        exact PM_zret hx hb hr hlk dX0_has_29 (by first | rfl | decide) (by omega)
      · refine lv_iload_n hx hb dX0_has_16 rfl (lv_at hl 2 rfl) ?_
        refine lv_aload_n hx hb dX0_has_17 rfl (lv_at hl 0 rfl) ?_
        refine va_get (D := D) (ci := 0) (v := .int (iI R)) (C := RX0) (T := TX0) (N := 4) hx hb hts uX0 hown hK.1 hP 0 rfl rfl 1 (by decide) (hts _ q_58) (fun _ h9 => h9) rfl dX0_has_18 ?_
        refine zv_icmp_ge hx hb dX0_has_21 (tgt := 28) (by decide) ⟨by omega, by omega⟩ ⟨by omega, by omega⟩ (fun c_4 => ?_) (fun c_4 => ?_)
        · refine zv_iconst hx hb dX0_has_28 ?_
          exact PM_zret hx hb hr hlk dX0_has_29 (by first | rfl | decide) (by omega)
        · refine zv_iconst hx hb dX0_has_24 ?_
          refine lv_goto (tgt := 29) hx hb dX0_has_25 (by decide) ?_
          exact PM_zret hx hb hr hlk dX0_has_29 (by first | rfl | decide) (by omega)
set_option maxRecDepth 100000 in
set_option maxHeartbeats 4000000 in
theorem c_X0_isFull (l : Launch) (D : va_G) (cI cJ : ClassId) (fl pn : Nat) (C R np : Int) (gn : Nat → Int) (N : Int → Int) (hF : FlOK C R np N gn) : PM l yX0_isFull (.code yX0_isFull cX0_isFull 1 (some .boolean)) 0 [.ref fl] D cI cJ [(fl, .inr (0, [.int (iI C), .int (iI R), .ref pn, .int (iI np)])), (pn, .inl (cI, 49, .inl (aI gn)))] (fun r => (r = 1 ∧ np = 3) ∨ (r = 0 ∧ ¬ np = 3)) := by
  obtain ⟨hC1, hC2, hR1, hR2, hp1, hp2, -, -⟩ := id hF
  refine PM_of (by decide) rfl (Nat.le_of_ble_eq_true rfl) (fun p e s m below meth c ls hx hb hr hts hown hlk hml hK hP hl => ?_)
  have hl : lv_has ls 1 [(0, .ref fl)] := hl
  refine lv_aload_n hx hb dX0_isFull_0 rfl (lv_at hl 0 rfl) ?_
  refine va_get (D := D) (ci := 0) (v := .int (iI np)) (C := RX0) (T := TX0) (N := 4) hx hb hts uX0 hown hK.1 hP 0 rfl rfl 3 (by decide) (hts _ q_60) (fun _ h9 => h9) rfl dX0_isFull_1 ?_
  refine zv_iconst hx hb dX0_isFull_4 ?_
  refine zv_icmp_lt hx hb dX0_isFull_5 (tgt := 12) (by decide) ⟨by omega, by omega⟩ ⟨by omega, by omega⟩ (fun c_1 => ?_) (fun c_1 => ?_)
  · refine zv_iconst hx hb dX0_isFull_12 ?_
    exact PM_zret hx hb hr hlk dX0_isFull_13 (by first | rfl | decide) (by omega)
  · refine zv_iconst hx hb dX0_isFull_8 ?_
    refine lv_goto (tgt := 13) hx hb dX0_isFull_9 (by decide) ?_
    exact PM_zret hx hb hr hlk dX0_isFull_13 (by first | rfl | decide) (by omega)
set_option maxRecDepth 100000 in
set_option maxHeartbeats 4000000 in
theorem c_X0_pillarNumberOf (l : Launch) (D : va_G) (cI cJ : ClassId) (fl pn : Nat) (C R np : Int) (gn : Nat → Int) (N : Int → Int) (z : Int) (hF : FlOK C R np N gn) (hz1 : -2147483648 ≤ z) (hz2 : z < 2147483648) : PM l yX0_pillarNumberOf (.code yX0_pillarNumberOf cX0_pillarNumberOf 2 (some .int)) 0 [.ref fl, .int (iI z)] D cI cJ [(fl, .inr (0, [.int (iI C), .int (iI R), .ref pn, .int (iI np)])), (pn, .inl (cI, 49, .inl (aI gn)))] (fun r => r = N z) := by
  obtain ⟨hC1, hC2, hR1, hR2, hp1, hp2, -, -⟩ := id hF
  refine PM_of (by decide) rfl (Nat.le_of_ble_eq_true rfl) (fun p e s m below meth c ls hx hb hr hts hown hlk hml hK hP hl => ?_)
  have hl : lv_has ls 2 [(0, .ref fl), (1, .int (iI z))] := hl
  refine lv_iload_n hx hb dX0_pillarNumberOf_0 rfl (lv_at hl 1 rfl) ?_
  refine zv_if_lt hx hb dX0_pillarNumberOf_1 (tgt := 22) (by decide) ⟨by omega, by omega⟩ (fun c_1 => ?_) (fun c_1 => ?_)
  · refine zv_iconst hx hb dX0_pillarNumberOf_22 ?_
    exact PM_iret hx hb hr hlk dX0_pillarNumberOf_23 (by first | rfl | exact (hF.Nout z (by omega)).symm)
  · refine lv_iload_n hx hb dX0_pillarNumberOf_4 rfl (lv_at hl 1 rfl) ?_
    refine lv_aload_n hx hb dX0_pillarNumberOf_5 rfl (lv_at hl 0 rfl) ?_
    refine va_get (D := D) (ci := 0) (v := .ref pn) (C := RX0) (T := TX0) (N := 4) hx hb hts uX0 hown hK.1 hP 0 rfl rfl 2 (by decide) (hts _ q_59) (fun _ h9 => h9) rfl dX0_pillarNumberOf_6 ?_
    refine zv_alen hx hb hK.1 hP 1 0 rfl rfl dX0_pillarNumberOf_9 ?_
    refine zv_icmp_ge hx hb dX0_pillarNumberOf_10 (tgt := 22) (by decide) ⟨by omega, by omega⟩ ⟨by omega, by omega⟩ (fun c_2 => ?_) (fun c_2 => ?_)
    · refine zv_iconst hx hb dX0_pillarNumberOf_22 ?_
      exact PM_iret hx hb hr hlk dX0_pillarNumberOf_23 (by first | rfl | exact (hF.Nout z (by omega)).symm)
    · refine lv_aload_n hx hb dX0_pillarNumberOf_13 rfl (lv_at hl 0 rfl) ?_
      refine va_get (D := D) (ci := 0) (v := .ref pn) (C := RX0) (T := TX0) (N := 4) hx hb hts uX0 hown hK.1 hP 0 rfl rfl 2 (by decide) (hts _ q_59) (fun _ h9 => h9) rfl dX0_pillarNumberOf_14 ?_
      refine lv_iload_n hx hb dX0_pillarNumberOf_17 rfl (lv_at hl 1 rfl) ?_
      refine zv_iald hx hb hK.1 hP 1 0 rfl rfl (by omega) (by omega) (by omega) dX0_pillarNumberOf_18 ?_
      refine zv_top (y := N z) (hF.gn (by omega) (by omega)) ?_
      refine lv_goto (tgt := 23) hx hb dX0_pillarNumberOf_19 (by decide) ?_
      exact PM_iret hx hb hr hlk dX0_pillarNumberOf_23 (by first | rfl | exact (hF.Nout z (by omega)).symm)
set_option maxRecDepth 100000 in
set_option maxHeartbeats 4000000 in
theorem c_X0_isPillar (l : Launch) (D : va_G) (cI cJ : ClassId) (fl pn : Nat) (C R np : Int) (gn : Nat → Int) (N : Int → Int) (z : Int) (hF : FlOK C R np N gn) (hz1 : -2147483648 ≤ z) (hz2 : z < 2147483648) : PM l yX0_isPillar (.code yX0_isPillar cX0_isPillar 2 (some .boolean)) 1 [.ref fl, .int (iI z)] D cI cJ [(fl, .inr (0, [.int (iI C), .int (iI R), .ref pn, .int (iI np)])), (pn, .inl (cI, 49, .inl (aI gn)))] (fun r => (r = 1 ∧ N z ≠ -1) ∨ (r = 0 ∧ N z = -1)) := by
  obtain ⟨hC1, hC2, hR1, hR2, hp1, hp2, -, -⟩ := id hF
  refine PM_of (by decide) rfl (Nat.le_of_ble_eq_true rfl) (fun p e s m below meth c ls hx hb hr hts hown hlk hml hK hP hl => ?_)
  have hl : lv_has ls 2 [(0, .ref fl), (1, .int (iI z))] := hl
  refine lv_aload_n hx hb dX0_isPillar_0 rfl (lv_at hl 0 rfl) ?_
  refine lv_iload_n hx hb dX0_isPillar_1 rfl (lv_at hl 1 rfl) ?_
  refine zc_V (As := [.int (iI z)]) (rest := []) (ws := [(fl, .inr (0, [.int (iI C), .int (iI R), .ref pn, .int (iI np)])), (pn, .inl (cI, 49, .inl (aI gn)))]) (n := 1) hx hb (hml.trans hl.1.symm) hts hown hK hP (c_X0_pillarNumberOf l D cI cJ fl pn C R np gn N z hF (by omega) (by omega)) (gd_V q_126 q_128 q_1003 q_3 q_129) (by decide +kernel) rfl ⟨Nat.le_of_ble_eq_true rfl, Nat.le_of_ble_eq_true rfl⟩ ⟨Nat.zero_le _, Nat.zero_le _⟩ [0, 1] rfl 0 (ci := 0) rfl rfl rfl rfl (Nat.le_of_ble_eq_true rfl) dX0_isPillar_2 (fun r_1 hr_1 => ?_)
  subst hr_1
  refine zv_iconst hx hb dX0_isPillar_5 ?_
  have hN2 := hF.N2 z
  refine zv_icmp_eq hx hb dX0_isPillar_6 (tgt := 13) (by decide) ⟨by omega, by omega⟩ ⟨by omega, by omega⟩ (fun c_2 => ?_) (fun c_2 => ?_)
  · refine zv_iconst hx hb dX0_isPillar_13 ?_
    exact PM_zret hx hb hr hlk dX0_isPillar_14 (by first | rfl | decide) (by omega)
  · refine zv_iconst hx hb dX0_isPillar_9 ?_
    refine lv_goto (tgt := 14) hx hb dX0_isPillar_10 (by decide) ?_
    exact PM_zret hx hb hr hlk dX0_isPillar_14 (by first | rfl | decide) (by omega)
set_option maxRecDepth 100000 in
set_option maxHeartbeats 4000000 in
theorem c_X0_placeAt (l : Launch) (D : va_G) (cI cJ : ClassId) (fl pn : Nat) (C R np : Int) (gn : Nat → Int) (N : Int → Int) (a b w : Int) (hF : FlOK C R np N gn) (ha1 : -2 ≤ a) (ha2 : a ≤ 8) (hb1 : -2 ≤ b) (hb2 : b ≤ 8) (hw0 : 0 ≤ w) (hw1 : w < 2147483648) : PM l yX0_placeAt (.code yX0_placeAt cX0_placeAt 4 (some .int)) 2 [.ref fl, .int (iI a), .int (iI b), .int (iI w)] D cI cJ [(fl, .inr (0, [.int (iI C), .int (iI R), .ref pn, .int (iI np)])), (pn, .inl (cI, 49, .inl (aI gn)))] (fun r => r = plZ C R N a b w) := by
  obtain ⟨hC1, hC2, hR1, hR2, hp1, hp2, -, -⟩ := id hF
  refine PM_of (by decide) rfl (Nat.le_of_ble_eq_true rfl) (fun p e s m below meth c ls hx hb hr hts hown hlk hml hK hP hl => ?_)
  have hl : lv_has ls 4 [(0, .ref fl), (1, .int (iI a)), (2, .int (iI b)), (3, .int (iI w))] := hl
  refine lv_iload_n hx hb dX0_placeAt_0 rfl (lv_at hl 3 rfl) ?_
  refine zv_sipush hx hb dX0_placeAt_1 (by decide) ?_
  refine zv_icmp_ge hx hb dX0_placeAt_4 (tgt := 28) (by decide) ⟨by omega, by omega⟩ ⟨by omega, by omega⟩ (fun c_1 => ?_) (fun c_1 => ?_)
  · refine zv_iconst hx hb dX0_placeAt_28 ?_
    exact PM_iret hx hb hr hlk dX0_placeAt_29 (by unfold plZ; first | rw [if_neg (by omega)] | rw [if_pos ⟨by omega, by omega, by omega, by omega, by omega, by omega⟩])
  · refine lv_aload_n hx hb dX0_placeAt_7 rfl (lv_at hl 0 rfl) ?_
    refine lv_iload_n hx hb dX0_placeAt_8 rfl (lv_at hl 1 rfl) ?_
    refine lv_iload_n hx hb dX0_placeAt_9 rfl (lv_at hl 2 rfl) ?_
    refine zc_V (As := [.int (iI a), .int (iI b)]) (rest := []) (ws := [(fl, .inr (0, [.int (iI C), .int (iI R), .ref pn, .int (iI np)])), (pn, .inl (cI, 49, .inl (aI gn)))]) (n := 2) hx hb (hml.trans hl.1.symm) hts hown hK hP (c_X0_has l D cI cJ fl pn C R np gn N a b hF (by omega) (by omega) (by omega) (by omega)) (gd_V q_117 q_118 q_119 q_3 q_120) (by decide +kernel) rfl ⟨Nat.le_of_ble_eq_true rfl, Nat.le_of_ble_eq_true rfl⟩ ⟨Nat.zero_le _, Nat.zero_le _⟩ [0, 1] rfl 0 (ci := 0) rfl rfl rfl rfl (Nat.le_of_ble_eq_true rfl) dX0_placeAt_10 (fun r_2 hr_2 => ?_)
    refine zv_if_eq hx hb dX0_placeAt_13 (tgt := 28) (by decide) ⟨by omega, by omega⟩ (fun c_3 => ?_) (fun c_3 => ?_)
    · refine zv_iconst hx hb dX0_placeAt_28 ?_
      exact PM_iret hx hb hr hlk dX0_placeAt_29 (by unfold plZ; first | rw [if_neg (by omega)] | rw [if_pos ⟨by omega, by omega, by omega, by omega, by omega, by omega⟩])
    · refine lv_aload_n hx hb dX0_placeAt_16 rfl (lv_at hl 0 rfl) ?_
      refine lv_iload_n hx hb dX0_placeAt_17 rfl (lv_at hl 1 rfl) ?_
      refine lv_iload_n hx hb dX0_placeAt_18 rfl (lv_at hl 2 rfl) ?_
      refine zc_SN (As := [.int (iI a), .int (iI b)]) (rest := [.ref fl]) (ws := [(fl, .inr (0, [.int (iI C), .int (iI R), .ref pn, .int (iI np)])), (pn, .inl (cI, 49, .inl (aI gn)))]) (n := 2) hx hb (hml.trans hl.1.symm) hts hown hK hP (c_X2_squareAt l D cI cJ a b) q_72 q_71 q_1 (by decide +kernel) (by decide +kernel) rfl ⟨Nat.le_of_ble_eq_true rfl, Nat.le_of_ble_eq_true rfl⟩ ⟨Nat.zero_le _, Nat.zero_le _⟩ [] rfl rfl (Nat.le_of_ble_eq_true rfl) dX0_placeAt_19 (fun r_4 hr_4 => ?_)
      subst hr_4
      refine zc_V (As := [.int (iI (a * 7 + b))]) (rest := []) (ws := [(fl, .inr (0, [.int (iI C), .int (iI R), .ref pn, .int (iI np)])), (pn, .inl (cI, 49, .inl (aI gn)))]) (n := 1) hx hb (hml.trans hl.1.symm) hts hown hK hP (c_X0_isPillar l D cI cJ fl pn C R np gn N (a * 7 + b) hF (by omega) (by omega)) (gd_V q_122 q_123 q_124 q_3 q_125) (by decide +kernel) rfl ⟨Nat.le_of_ble_eq_true rfl, Nat.le_of_ble_eq_true rfl⟩ ⟨Nat.zero_le _, Nat.zero_le _⟩ [0, 1] rfl 0 (ci := 0) rfl rfl rfl rfl (Nat.le_of_ble_eq_true rfl) dX0_placeAt_22 (fun r_5 hr_5 => ?_)
      refine zv_if_eq hx hb dX0_placeAt_25 (tgt := 30) (by decide) ⟨by omega, by omega⟩ (fun c_6 => ?_) (fun c_6 => ?_)
      · refine lv_iload_n hx hb dX0_placeAt_30 rfl (lv_at hl 1 rfl) ?_
        refine lv_iload_n hx hb dX0_placeAt_31 rfl (lv_at hl 2 rfl) ?_
        refine zc_SN (As := [.int (iI a), .int (iI b)]) (rest := []) (ws := [(fl, .inr (0, [.int (iI C), .int (iI R), .ref pn, .int (iI np)])), (pn, .inl (cI, 49, .inl (aI gn)))]) (n := 2) hx hb (hml.trans hl.1.symm) hts hown hK hP (c_X2_squareAt l D cI cJ a b) q_72 q_71 q_1 (by decide +kernel) (by decide +kernel) rfl ⟨Nat.le_of_ble_eq_true rfl, Nat.le_of_ble_eq_true rfl⟩ ⟨Nat.zero_le _, Nat.zero_le _⟩ [] rfl rfl (Nat.le_of_ble_eq_true rfl) dX0_placeAt_32 (fun r_7 hr_7 => ?_)
        subst hr_7
        refine lv_iload_n hx hb dX0_placeAt_35 rfl (lv_at hl 3 rfl) ?_
        refine zc_SN (As := [.int (iI (a * 7 + b)), .int (iI w)]) (rest := []) (ws := [(fl, .inr (0, [.int (iI C), .int (iI R), .ref pn, .int (iI np)])), (pn, .inl (cI, 49, .inl (aI gn)))]) (n := 2) hx hb (hml.trans hl.1.symm) hts hown hK hP (c_X2_placeOf l D cI cJ (a * 7 + b) w) q_75 q_74 q_1 (by decide +kernel) (by decide +kernel) rfl ⟨Nat.le_of_ble_eq_true rfl, Nat.le_of_ble_eq_true rfl⟩ ⟨Nat.zero_le _, Nat.zero_le _⟩ [] rfl rfl (Nat.le_of_ble_eq_true rfl) dX0_placeAt_36 (fun r_8 hr_8 => ?_)
        subst hr_8
        exact PM_iret hx hb hr hlk dX0_placeAt_39 (by unfold plZ; first | rw [if_neg (by omega)] | rw [if_pos ⟨by omega, by omega, by omega, by omega, by omega, by omega⟩])
      · refine zv_iconst hx hb dX0_placeAt_28 ?_
        exact PM_iret hx hb hr hlk dX0_placeAt_29 (by unfold plZ; first | rw [if_neg (by omega)] | rw [if_pos ⟨by omega, by omega, by omega, by omega, by omega, by omega⟩])
end
section
set_option maxRecDepth 100000 in
set_option maxHeartbeats 4000000 in
theorem c_X0_wordToTheRight (l : Launch) (D : va_G) (cI cJ : ClassId) (fl pn : Nat) (C R np : Int) (gn : Nat → Int) (N : Int → Int) (w a b : Int) (hF : FlOK C R np N gn) (ha1 : -2 ≤ a) (ha2 : a ≤ 8) (hb1 : 0 ≤ b) (hb2 : b < R) (hw0 : 0 ≤ w) (hw1 : w < 343) : PM l yX0_wordToTheRight (.code yX0_wordToTheRight cX0_wordToTheRight 7 (some .int)) 3 [.ref fl, .int (iI w), .int (iI a), .int (iI b)] D cI cJ [(fl, .inr (0, [.int (iI C), .int (iI R), .ref pn, .int (iI np)])), (pn, .inl (cI, 49, .inl (aI gn)))] (fun r => r = wRZ N R a b w) := by
  obtain ⟨hC1, hC2, hR1, hR2, hp1, hp2, -, -⟩ := id hF
  refine PM_of (by decide) rfl (Nat.le_of_ble_eq_true rfl) (fun p e s m below meth c ls hx hb hr hts hown hlk hml hK hP hl => ?_)
  have hl : lv_has ls 7 [(0, .ref fl), (1, .int (iI w)), (2, .int (iI a)), (3, .int (iI b))] := hl
  refine lv_iload_n hx hb dX0_wordToTheRight_0 rfl (lv_at hl 1 rfl) ?_
  refine lv_istore (lv' := [(4, .int (iI w)), (0, .ref fl), (1, .int (iI w)), (2, .int (iI a)), (3, .int (iI b))]) hx hb dX0_wordToTheRight_1 hl (by decide) rfl (fun ls hl => ?_)
  refine lv_iload_n hx hb dX0_wordToTheRight_3 rfl (lv_at hl 4 rfl) ?_
  refine zv_iconst hx hb dX0_wordToTheRight_4 ?_
  refine zv_iadd hx hb dX0_wordToTheRight_5 ?_
  refine lv_istore (lv' := [(5, .int (iI (b + 1))), (4, .int (iI w)), (0, .ref fl), (1, .int (iI w)), (2, .int (iI a)), (3, .int (iI b))]) hx hb dX0_wordToTheRight_6 hl (by decide) rfl (fun ls hl => ?_)
  have loop8 : ∀ (n : Nat) (x y : Int) (j : Nat), (y = b + 1 + (j : Int)) → (y ≤ R) → (x = wRn N a j (b + 1) w) → (R - y < (n : Int)) → ∀ ls : Array Slot, lv_has ls 7 [(0, .ref fl), (1, .int (iI w)), (2, .int (iI a)), (3, .int (iI b)), (4, .int (iI x)), (5, .int (iI y))] → W p l e (lvl 3) s m [.ref fl, .int (iI w), .int (iI a), .int (iI b)].toArray below meth c s.heap [] 0 0 (MQ below (PQ (fun r => r = wRZ N R a b w)) [.ref fl, .int (iI w), .int (iI a), .int (iI b)].toArray s 0 0 (fun _ => False)) (F0 m 8 ls []) := by
    intro n
    induction n with
    | zero => intro x y j hy hyR hxw hms; exfalso; omega
    | succ n ih =>
      intro x y j hy hyR hxw hms ls hl
      have hN2 := hF.N2 (a * 7 + y)
      have hxb := wRn_b hF (c := a) hw0 hw1 j (b + 1)
      have hpb := pw7_le j (by omega)
      rw [← hxw] at hxb
      refine lv_iload hx hb dX0_wordToTheRight_8 (lv_at hl 5 rfl) ?_
      refine lv_aload_n hx hb dX0_wordToTheRight_10 rfl (lv_at hl 0 rfl) ?_
      refine va_get (D := D) (ci := 0) (v := .int (iI R)) (C := RX0) (T := TX0) (N := 4) hx hb hts uX0 hown hK.1 hP 0 rfl rfl 1 (by decide) (hts _ q_58) (fun _ h9 => h9) rfl dX0_wordToTheRight_11 ?_
      refine zv_icmp_ge hx hb dX0_wordToTheRight_14 (tgt := 52) (by decide) ⟨by omega, by omega⟩ ⟨by omega, by omega⟩ (fun c_1 => ?_) (fun c_1 => ?_)
      · refine lv_iload hx hb dX0_wordToTheRight_52 (lv_at hl 4 rfl) ?_
        exact PM_iret hx hb hr hlk dX0_wordToTheRight_54 (by rw [hxw]; unfold wRZ; rw [show (R - 1 - b).toNat = j by omega])
      · refine lv_aload_n hx hb dX0_wordToTheRight_17 rfl (lv_at hl 0 rfl) ?_
        refine lv_iload_n hx hb dX0_wordToTheRight_18 rfl (lv_at hl 2 rfl) ?_
        refine lv_iload hx hb dX0_wordToTheRight_19 (lv_at hl 5 rfl) ?_
        refine zc_SN (As := [.int (iI a), .int (iI y)]) (rest := [.ref fl]) (ws := [(fl, .inr (0, [.int (iI C), .int (iI R), .ref pn, .int (iI np)])), (pn, .inl (cI, 49, .inl (aI gn)))]) (n := 2) hx hb (hml.trans hl.1.symm) hts hown hK hP (c_X2_squareAt l D cI cJ a y) q_72 q_71 q_1 (by decide +kernel) (by decide +kernel) rfl ⟨Nat.le_of_ble_eq_true rfl, Nat.le_of_ble_eq_true rfl⟩ ⟨Nat.zero_le _, Nat.zero_le _⟩ [] rfl rfl (Nat.le_of_ble_eq_true rfl) dX0_wordToTheRight_21 (fun r_2 hr_2 => ?_)
        subst hr_2
        refine zc_V (As := [.int (iI (a * 7 + y))]) (rest := []) (ws := [(fl, .inr (0, [.int (iI C), .int (iI R), .ref pn, .int (iI np)])), (pn, .inl (cI, 49, .inl (aI gn)))]) (n := 1) hx hb (hml.trans hl.1.symm) hts hown hK hP (c_X0_pillarNumberOf l D cI cJ fl pn C R np gn N (a * 7 + y) hF (by omega) (by omega)) (gd_V q_126 q_128 q_1003 q_3 q_129) (by decide +kernel) rfl ⟨Nat.le_of_ble_eq_true rfl, Nat.le_of_ble_eq_true rfl⟩ ⟨Nat.zero_le _, Nat.zero_le _⟩ [0, 1] rfl 0 (ci := 0) rfl rfl rfl rfl (Nat.le_of_ble_eq_true rfl) dX0_wordToTheRight_24 (fun r_3 hr_3 => ?_)
        subst hr_3
        refine lv_istore (lv' := [(6, .int (iI (N (a * 7 + y)))), (0, .ref fl), (1, .int (iI w)), (2, .int (iI a)), (3, .int (iI b)), (4, .int (iI x)), (5, .int (iI y))]) hx hb dX0_wordToTheRight_27 hl (by decide) rfl (fun ls hl => ?_)
        refine lv_iload hx hb dX0_wordToTheRight_29 (lv_at hl 0 rfl) ?_
        refine zv_iconst hx hb dX0_wordToTheRight_31 ?_
        refine zv_icmp_eq hx hb dX0_wordToTheRight_32 (tgt := 46) (by decide) ⟨by omega, by omega⟩ ⟨by omega, by omega⟩ (fun c_4 => ?_) (fun c_4 => ?_)
        · refine zv_iinc (k := 6) (lv' := [(5, .int (iI (y + 1))), (6, .int (iI (N (a * 7 + y)))), (0, .ref fl), (1, .int (iI w)), (2, .int (iI a)), (3, .int (iI b)), (4, .int (iI x))]) hx hb dX0_wordToTheRight_46 hl rfl (by decide) rfl (fun ls hl => ?_)
          refine lv_goto (tgt := 8) hx hb dX0_wordToTheRight_49 (by decide) ?_
          exact ih x (y + 1) (j + 1) (by omega) (by omega) (by rw [show wRn N a (j + 1) (b + 1) w = stR N a (b + 1 + j) (wRn N a j (b + 1) w) from rfl, ← hxw, ← hy]; unfold stR; first | rw [if_pos (by assumption)] | rw [if_neg (by assumption)]) (by omega) ls (lv_sub hl [2, 3, 4, 5, 6, 0] rfl)
        · refine lv_iload hx hb dX0_wordToTheRight_35 (lv_at hl 5 rfl) ?_
          refine zv_iconst hx hb dX0_wordToTheRight_37 ?_
          refine lv_iload hx hb dX0_wordToTheRight_38 (lv_at hl 0 rfl) ?_
          refine zv_imul hx hb dX0_wordToTheRight_40 ?_
          refine zc_SN (As := [.int (iI x), .int (iI (2 * N (a * 7 + y)))]) (rest := []) (ws := [(fl, .inr (0, [.int (iI C), .int (iI R), .ref pn, .int (iI np)])), (pn, .inl (cI, 49, .inl (aI gn)))]) (n := 2) hx hb (hml.trans hl.1.symm) hts hown hK hP (c_X2_withLetter l D cI cJ x (2 * N (a * 7 + y)) (by omega) (by omega) (by omega) (by omega)) q_137 q_136 q_1 (by decide +kernel) (by decide +kernel) rfl ⟨Nat.le_of_ble_eq_true rfl, Nat.le_of_ble_eq_true rfl⟩ ⟨Nat.zero_le _, Nat.zero_le _⟩ [] rfl rfl (Nat.le_of_ble_eq_true rfl) dX0_wordToTheRight_41 (fun r_5 hr_5 => ?_)
          subst hr_5
          refine lv_istore (lv' := [(4, .int (iI (wjZ x (2 * N (a * 7 + y))))), (6, .int (iI (N (a * 7 + y)))), (0, .ref fl), (1, .int (iI w)), (2, .int (iI a)), (3, .int (iI b)), (5, .int (iI y))]) hx hb dX0_wordToTheRight_44 hl (by decide) rfl (fun ls hl => ?_)
          refine zv_iinc (k := 6) (lv' := [(5, .int (iI (y + 1))), (4, .int (iI (wjZ x (2 * N (a * 7 + y))))), (6, .int (iI (N (a * 7 + y)))), (0, .ref fl), (1, .int (iI w)), (2, .int (iI a)), (3, .int (iI b))]) hx hb dX0_wordToTheRight_46 hl rfl (by decide) rfl (fun ls hl => ?_)
          refine lv_goto (tgt := 8) hx hb dX0_wordToTheRight_49 (by decide) ?_
          exact ih (wjZ x (2 * N (a * 7 + y))) (y + 1) (j + 1) (by omega) (by omega) (by rw [show wRn N a (j + 1) (b + 1) w = stR N a (b + 1 + j) (wRn N a j (b + 1) w) from rfl, ← hxw, ← hy]; unfold stR; first | rw [if_pos (by assumption)] | rw [if_neg (by assumption)]) (by omega) ls (lv_sub hl [3, 4, 5, 6, 1, 0] rfl)
  exact loop8 8 w (b + 1) 0 (by omega) (by omega) rfl (by omega) ls (lv_sub hl [2, 3, 4, 5, 1, 0] rfl)
set_option maxRecDepth 100000 in
set_option maxHeartbeats 4000000 in
theorem c_X0_wordToTheLeft (l : Launch) (D : va_G) (cI cJ : ClassId) (fl pn : Nat) (C R np : Int) (gn : Nat → Int) (N : Int → Int) (w a b : Int) (hF : FlOK C R np N gn) (ha1 : -2 ≤ a) (ha2 : a ≤ 8) (hb1 : 0 ≤ b) (hb2 : b < R) (hw0 : 0 ≤ w) (hw1 : w < 343) : PM l yX0_wordToTheLeft (.code yX0_wordToTheLeft cX0_wordToTheLeft 7 (some .int)) 3 [.ref fl, .int (iI w), .int (iI a), .int (iI b)] D cI cJ [(fl, .inr (0, [.int (iI C), .int (iI R), .ref pn, .int (iI np)])), (pn, .inl (cI, 49, .inl (aI gn)))] (fun r => r = wLZ N R a b w) := by
  obtain ⟨hC1, hC2, hR1, hR2, hp1, hp2, -, -⟩ := id hF
  refine PM_of (by decide) rfl (Nat.le_of_ble_eq_true rfl) (fun p e s m below meth c ls hx hb hr hts hown hlk hml hK hP hl => ?_)
  have hl : lv_has ls 7 [(0, .ref fl), (1, .int (iI w)), (2, .int (iI a)), (3, .int (iI b))] := hl
  refine lv_iload_n hx hb dX0_wordToTheLeft_0 rfl (lv_at hl 1 rfl) ?_
  refine lv_istore (lv' := [(4, .int (iI w)), (0, .ref fl), (1, .int (iI w)), (2, .int (iI a)), (3, .int (iI b))]) hx hb dX0_wordToTheLeft_1 hl (by decide) rfl (fun ls hl => ?_)
  refine lv_aload_n hx hb dX0_wordToTheLeft_3 rfl (lv_at hl 1 rfl) ?_
  refine va_get (D := D) (ci := 0) (v := .int (iI R)) (C := RX0) (T := TX0) (N := 4) hx hb hts uX0 hown hK.1 hP 0 rfl rfl 1 (by decide) (hts _ q_58) (fun _ h9 => h9) rfl dX0_wordToTheLeft_4 ?_
  refine zv_iconst hx hb dX0_wordToTheLeft_7 ?_
  refine zv_isub hx hb dX0_wordToTheLeft_8 ?_
  refine lv_istore (lv' := [(5, .int (iI (R - 1))), (4, .int (iI w)), (0, .ref fl), (1, .int (iI w)), (2, .int (iI a)), (3, .int (iI b))]) hx hb dX0_wordToTheLeft_9 hl (by decide) rfl (fun ls hl => ?_)
  have loop11 : ∀ (n : Nat) (x y : Int) (i : Nat), (y = b + (i : Int)) → (y ≤ R - 1) → (wLn N a i (b + 1) x = wLZ N R a b w) → (0 ≤ x) → (x < pw7 (R - 1 - y).toNat) → (y - b < (n : Int)) → ∀ ls : Array Slot, lv_has ls 7 [(0, .ref fl), (1, .int (iI w)), (2, .int (iI a)), (3, .int (iI b)), (4, .int (iI x)), (5, .int (iI y))] → W p l e (lvl 3) s m [.ref fl, .int (iI w), .int (iI a), .int (iI b)].toArray below meth c s.heap [] 0 0 (MQ below (PQ (fun r => r = wLZ N R a b w)) [.ref fl, .int (iI w), .int (iI a), .int (iI b)].toArray s 0 0 (fun _ => False)) (F0 m 11 ls []) := by
    intro n
    induction n with
    | zero => intro x y i hy hyR hxw hx0 hx1 hms; exfalso; omega
    | succ n ih =>
      intro x y i hy hyR hxw hx0 hx1 hms ls hl
      have hN2 := hF.N2 (a * 7 + y)
      have hpb := pw7_le (R - 1 - y).toNat (by omega)
      refine lv_iload hx hb dX0_wordToTheLeft_11 (lv_at hl 5 rfl) ?_
      refine lv_iload_n hx hb dX0_wordToTheLeft_13 rfl (lv_at hl 3 rfl) ?_
      refine zv_icmp_le hx hb dX0_wordToTheLeft_14 (tgt := 55) (by decide) ⟨by omega, by omega⟩ ⟨by omega, by omega⟩ (fun c_1 => ?_) (fun c_1 => ?_)
      · refine lv_iload hx hb dX0_wordToTheLeft_55 (lv_at hl 4 rfl) ?_
        exact PM_iret hx hb hr hlk dX0_wordToTheLeft_57 (by rw [← hxw, show i = 0 by omega]; rfl)
      · refine lv_aload_n hx hb dX0_wordToTheLeft_17 rfl (lv_at hl 0 rfl) ?_
        refine lv_iload_n hx hb dX0_wordToTheLeft_18 rfl (lv_at hl 2 rfl) ?_
        refine lv_iload hx hb dX0_wordToTheLeft_19 (lv_at hl 5 rfl) ?_
        refine zc_SN (As := [.int (iI a), .int (iI y)]) (rest := [.ref fl]) (ws := [(fl, .inr (0, [.int (iI C), .int (iI R), .ref pn, .int (iI np)])), (pn, .inl (cI, 49, .inl (aI gn)))]) (n := 2) hx hb (hml.trans hl.1.symm) hts hown hK hP (c_X2_squareAt l D cI cJ a y) q_72 q_71 q_1 (by decide +kernel) (by decide +kernel) rfl ⟨Nat.le_of_ble_eq_true rfl, Nat.le_of_ble_eq_true rfl⟩ ⟨Nat.zero_le _, Nat.zero_le _⟩ [] rfl rfl (Nat.le_of_ble_eq_true rfl) dX0_wordToTheLeft_21 (fun r_2 hr_2 => ?_)
        subst hr_2
        refine zc_V (As := [.int (iI (a * 7 + y))]) (rest := []) (ws := [(fl, .inr (0, [.int (iI C), .int (iI R), .ref pn, .int (iI np)])), (pn, .inl (cI, 49, .inl (aI gn)))]) (n := 1) hx hb (hml.trans hl.1.symm) hts hown hK hP (c_X0_pillarNumberOf l D cI cJ fl pn C R np gn N (a * 7 + y) hF (by omega) (by omega)) (gd_V q_126 q_128 q_1003 q_3 q_129) (by decide +kernel) rfl ⟨Nat.le_of_ble_eq_true rfl, Nat.le_of_ble_eq_true rfl⟩ ⟨Nat.zero_le _, Nat.zero_le _⟩ [0, 1] rfl 0 (ci := 0) rfl rfl rfl rfl (Nat.le_of_ble_eq_true rfl) dX0_wordToTheLeft_24 (fun r_3 hr_3 => ?_)
        subst hr_3
        refine lv_istore (lv' := [(6, .int (iI (N (a * 7 + y)))), (0, .ref fl), (1, .int (iI w)), (2, .int (iI a)), (3, .int (iI b)), (4, .int (iI x)), (5, .int (iI y))]) hx hb dX0_wordToTheLeft_27 hl (by decide) rfl (fun ls hl => ?_)
        refine lv_iload hx hb dX0_wordToTheLeft_29 (lv_at hl 0 rfl) ?_
        refine zv_iconst hx hb dX0_wordToTheLeft_31 ?_
        refine zv_icmp_eq hx hb dX0_wordToTheLeft_32 (tgt := 49) (by decide) ⟨by omega, by omega⟩ ⟨by omega, by omega⟩ (fun c_4 => ?_) (fun c_4 => ?_)
        · refine zv_iinc (k := 6) (lv' := [(5, .int (iI (y + (-1)))), (6, .int (iI (N (a * 7 + y)))), (0, .ref fl), (1, .int (iI w)), (2, .int (iI a)), (3, .int (iI b)), (4, .int (iI x))]) hx hb dX0_wordToTheLeft_49 hl rfl (by decide) rfl (fun ls hl => ?_)
          refine lv_goto (tgt := 11) hx hb dX0_wordToTheLeft_52 (by decide) ?_
          obtain ⟨i, rfl⟩ : ∃ i0, i = i0 + 1 := ⟨i - 1, by omega⟩
          have hxs := stL_b hF (c := a) (r := y) hx0 hx1
          have hxe : wLn N a i (b + 1) (stL N a y x) = wLZ N R a b w := by rw [← hxw, show y = b + 1 + (i : Int) by omega]; rfl
          have hpe : (R - 1 - (y + (-1))).toNat = (R - 1 - y).toNat + 1 := by omega
          unfold stL at hxs hxe
          first | rw [if_pos (by assumption)] at hxs hxe | rw [if_neg (by assumption)] at hxs hxe
          exact ih x (y + (-1)) i (by omega) (by omega) hxe hxs.1 (by rw [hpe]; exact hxs.2) (by omega) ls (lv_sub hl [2, 3, 4, 5, 6, 0] rfl)
        · refine lv_iload hx hb dX0_wordToTheLeft_35 (lv_at hl 5 rfl) ?_
          refine zv_iconst hx hb dX0_wordToTheLeft_37 ?_
          refine lv_iload hx hb dX0_wordToTheLeft_38 (lv_at hl 0 rfl) ?_
          refine zv_imul hx hb dX0_wordToTheLeft_40 ?_
          refine zc_SN (As := [.int (iI (2 * N (a * 7 + y)))]) (rest := [.int (iI x)]) (ws := [(fl, .inr (0, [.int (iI C), .int (iI R), .ref pn, .int (iI np)])), (pn, .inl (cI, 49, .inl (aI gn)))]) (n := 1) hx hb (hml.trans hl.1.symm) hts hown hK hP (c_X2_oppositeOf l D cI cJ (2 * N (a * 7 + y)) (by omega) (by omega)) q_143 q_142 q_1 (by decide +kernel) (by decide +kernel) rfl ⟨Nat.le_of_ble_eq_true rfl, Nat.le_of_ble_eq_true rfl⟩ ⟨Nat.zero_le _, Nat.zero_le _⟩ [] rfl rfl (Nat.le_of_ble_eq_true rfl) dX0_wordToTheLeft_41 (fun r_5 hr_5 => ?_)
          subst hr_5
          have hop := oppZ_b (k := 2 * N (a * 7 + y)) (by omega) (by omega)
          refine zc_SN (As := [.int (iI x), .int (iI (oppZ (2 * N (a * 7 + y))))]) (rest := []) (ws := [(fl, .inr (0, [.int (iI C), .int (iI R), .ref pn, .int (iI np)])), (pn, .inl (cI, 49, .inl (aI gn)))]) (n := 2) hx hb (hml.trans hl.1.symm) hts hown hK hP (c_X2_withLetter l D cI cJ x (oppZ (2 * N (a * 7 + y))) (by omega) (by omega) (by omega) (by omega)) q_137 q_136 q_1 (by decide +kernel) (by decide +kernel) rfl ⟨Nat.le_of_ble_eq_true rfl, Nat.le_of_ble_eq_true rfl⟩ ⟨Nat.zero_le _, Nat.zero_le _⟩ [] rfl rfl (Nat.le_of_ble_eq_true rfl) dX0_wordToTheLeft_44 (fun r_6 hr_6 => ?_)
          subst hr_6
          refine lv_istore (lv' := [(4, .int (iI (wjZ x (oppZ (2 * N (a * 7 + y)))))), (6, .int (iI (N (a * 7 + y)))), (0, .ref fl), (1, .int (iI w)), (2, .int (iI a)), (3, .int (iI b)), (5, .int (iI y))]) hx hb dX0_wordToTheLeft_47 hl (by decide) rfl (fun ls hl => ?_)
          refine zv_iinc (k := 6) (lv' := [(5, .int (iI (y + (-1)))), (4, .int (iI (wjZ x (oppZ (2 * N (a * 7 + y)))))), (6, .int (iI (N (a * 7 + y)))), (0, .ref fl), (1, .int (iI w)), (2, .int (iI a)), (3, .int (iI b))]) hx hb dX0_wordToTheLeft_49 hl rfl (by decide) rfl (fun ls hl => ?_)
          refine lv_goto (tgt := 11) hx hb dX0_wordToTheLeft_52 (by decide) ?_
          obtain ⟨i, rfl⟩ : ∃ i0, i = i0 + 1 := ⟨i - 1, by omega⟩
          have hxs := stL_b hF (c := a) (r := y) hx0 hx1
          have hxe : wLn N a i (b + 1) (stL N a y x) = wLZ N R a b w := by rw [← hxw, show y = b + 1 + (i : Int) by omega]; rfl
          have hpe : (R - 1 - (y + (-1))).toNat = (R - 1 - y).toNat + 1 := by omega
          unfold stL at hxs hxe
          first | rw [if_pos (by assumption)] at hxs hxe | rw [if_neg (by assumption)] at hxs hxe
          exact ih (wjZ x (oppZ (2 * N (a * 7 + y)))) (y + (-1)) i (by omega) (by omega) hxe hxs.1 (by rw [hpe]; exact hxs.2) (by omega) ls (lv_sub hl [3, 4, 5, 6, 1, 0] rfl)
  exact loop11 8 w (R - 1) ((R - 1 - b).toNat) (by omega) (by omega) rfl (by omega) (by rw [show (R - 1 - (R - 1)).toNat = 0 by omega]; exact hw1) (by omega) ls (lv_sub hl [2, 3, 4, 5, 1, 0] rfl)
set_option maxRecDepth 100000 in
set_option maxHeartbeats 4000000 in
theorem c_X0_after (l : Launch) (D : va_G) (cI cJ : ClassId) (fl pn : Nat) (C R np : Int) (gn : Nat → Int) (N : Int → Int) (z d : Int) (hF : FlOK C R np N gn) (hz0 : 0 ≤ z) (hz1 : z < 16807) (hd0 : 0 ≤ d) (hd1 : d ≤ 3) (hpr : z / 343 % 7 < R) : PM l yX0_after (.code yX0_after cX0_after 5 (some .int)) 4 [.ref fl, .int (iI z), .int (iI d)] D cI cJ [(fl, .inr (0, [.int (iI C), .int (iI R), .ref pn, .int (iI np)])), (pn, .inl (cI, 49, .inl (aI gn)))] (fun r => r = aftZ C R N z d) := by
  obtain ⟨hC1, hC2, hR1, hR2, hp1, hp2, -, -⟩ := id hF
  refine PM_of (by decide) rfl (Nat.le_of_ble_eq_true rfl) (fun p e s m below meth c ls hx hb hr hts hown hlk hml hK hP hl => ?_)
  have hl : lv_has ls 5 [(0, .ref fl), (1, .int (iI z)), (2, .int (iI d))] := hl
  refine lv_iload_n hx hb dX0_after_0 rfl (lv_at hl 1 rfl) ?_
  refine zc_SN (As := [.int (iI z)]) (rest := []) (ws := [(fl, .inr (0, [.int (iI C), .int (iI R), .ref pn, .int (iI np)])), (pn, .inl (cI, 49, .inl (aI gn)))]) (n := 1) hx hb (hml.trans hl.1.symm) hts hown hK hP (c_X2_squareOf l D cI cJ z (by omega) (by omega)) q_103 q_102 q_1 (by decide +kernel) (by decide +kernel) rfl ⟨Nat.le_of_ble_eq_true rfl, Nat.le_of_ble_eq_true rfl⟩ ⟨Nat.zero_le _, Nat.zero_le _⟩ [] rfl rfl (Nat.le_of_ble_eq_true rfl) dX0_after_1 (fun r_1 hr_1 => ?_)
  subst hr_1
  refine zc_SN (As := [.int (iI (z / 343))]) (rest := []) (ws := [(fl, .inr (0, [.int (iI C), .int (iI R), .ref pn, .int (iI np)])), (pn, .inl (cI, 49, .inl (aI gn)))]) (n := 1) hx hb (hml.trans hl.1.symm) hts hown hK hP (c_X2_columnOf l D cI cJ (z / 343) (by omega) (by omega)) q_106 q_105 q_1 (by decide +kernel) (by decide +kernel) rfl ⟨Nat.le_of_ble_eq_true rfl, Nat.le_of_ble_eq_true rfl⟩ ⟨Nat.zero_le _, Nat.zero_le _⟩ [] rfl rfl (Nat.le_of_ble_eq_true rfl) dX0_after_4 (fun r_2 hr_2 => ?_)
  subst hr_2
  refine lv_istore_n (lv' := [(3, .int (iI ((z / 343) / 7))), (0, .ref fl), (1, .int (iI z)), (2, .int (iI d))]) hx hb dX0_after_7 rfl hl (by decide) rfl (fun ls hl => ?_)
  refine lv_iload_n hx hb dX0_after_8 rfl (lv_at hl 2 rfl) ?_
  refine zc_SN (As := [.int (iI z)]) (rest := []) (ws := [(fl, .inr (0, [.int (iI C), .int (iI R), .ref pn, .int (iI np)])), (pn, .inl (cI, 49, .inl (aI gn)))]) (n := 1) hx hb (hml.trans hl.1.symm) hts hown hK hP (c_X2_squareOf l D cI cJ z (by omega) (by omega)) q_103 q_102 q_1 (by decide +kernel) (by decide +kernel) rfl ⟨Nat.le_of_ble_eq_true rfl, Nat.le_of_ble_eq_true rfl⟩ ⟨Nat.zero_le _, Nat.zero_le _⟩ [] rfl rfl (Nat.le_of_ble_eq_true rfl) dX0_after_9 (fun r_3 hr_3 => ?_)
  subst hr_3
  refine zc_SN (As := [.int (iI (z / 343))]) (rest := []) (ws := [(fl, .inr (0, [.int (iI C), .int (iI R), .ref pn, .int (iI np)])), (pn, .inl (cI, 49, .inl (aI gn)))]) (n := 1) hx hb (hml.trans hl.1.symm) hts hown hK hP (c_X2_rowOf l D cI cJ (z / 343) (by omega) (by omega)) q_109 q_108 q_1 (by decide +kernel) (by decide +kernel) rfl ⟨Nat.le_of_ble_eq_true rfl, Nat.le_of_ble_eq_true rfl⟩ ⟨Nat.zero_le _, Nat.zero_le _⟩ [] rfl rfl (Nat.le_of_ble_eq_true rfl) dX0_after_12 (fun r_4 hr_4 => ?_)
  subst hr_4
  refine lv_istore (lv' := [(4, .int (iI ((z / 343) % 7))), (3, .int (iI ((z / 343) / 7))), (0, .ref fl), (1, .int (iI z)), (2, .int (iI d))]) hx hb dX0_after_15 hl (by decide) rfl (fun ls hl => ?_)
  refine lv_iload_n hx hb dX0_after_17 rfl (lv_at hl 4 rfl) ?_
  rcases (show d = 0 ∨ d = 1 ∨ d = 2 ∨ d = 3 by omega) with rfl | rfl | rfl | rfl
  · skip
    refine zv_tableIn (tgt := 48) hx hb dX0_after_18 ⟨by decide, by decide⟩ (by decide) (by decide) rfl (by decide) ?_
    refine lv_aload_n hx hb dX0_after_48 rfl (lv_at hl 2 rfl) ?_
    refine lv_iload_n hx hb dX0_after_49 rfl (lv_at hl 1 rfl) ?_
    refine lv_iload hx hb dX0_after_50 (lv_at hl 0 rfl) ?_
    refine zv_iconst hx hb dX0_after_52 ?_
    refine zv_isub hx hb dX0_after_53 ?_
    refine lv_iload_n hx hb dX0_after_54 rfl (lv_at hl 3 rfl) ?_
    refine zc_SN (As := [.int (iI z)]) (rest := [.int (iI ((z / 343) % 7 - 1)), .int (iI ((z / 343) / 7)), .ref fl]) (ws := [(fl, .inr (0, [.int (iI C), .int (iI R), .ref pn, .int (iI np)])), (pn, .inl (cI, 49, .inl (aI gn)))]) (n := 1) hx hb (hml.trans hl.1.symm) hts hown hK hP (c_X2_wordOf l D cI cJ z (by omega) (by omega)) q_112 q_111 q_1 (by decide +kernel) (by decide +kernel) rfl ⟨Nat.le_of_ble_eq_true rfl, Nat.le_of_ble_eq_true rfl⟩ ⟨Nat.zero_le _, Nat.zero_le _⟩ [] rfl rfl (Nat.le_of_ble_eq_true rfl) dX0_after_55 (fun r_5 hr_5 => ?_)
    subst hr_5
    refine zc_V (As := [.int (iI ((z / 343) / 7)), .int (iI ((z / 343) % 7 - 1)), .int (iI (z % 343))]) (rest := []) (ws := [(fl, .inr (0, [.int (iI C), .int (iI R), .ref pn, .int (iI np)])), (pn, .inl (cI, 49, .inl (aI gn)))]) (n := 3) hx hb (hml.trans hl.1.symm) hts hown hK hP (c_X0_placeAt l D cI cJ fl pn C R np gn N ((z / 343) / 7) ((z / 343) % 7 - 1) (z % 343) hF (by omega) (by omega) (by omega) (by omega) (by omega) (by omega)) (gd_V q_113 q_115 q_1002 q_3 q_116) (by decide +kernel) rfl ⟨Nat.le_of_ble_eq_true rfl, Nat.le_of_ble_eq_true rfl⟩ ⟨Nat.zero_le _, Nat.zero_le _⟩ [0, 1] rfl 0 (ci := 0) rfl rfl rfl rfl (Nat.le_of_ble_eq_true rfl) dX0_after_58 (fun r_6 hr_6 => ?_)
    subst hr_6
    exact PM_iret hx hb hr hlk dX0_after_61 (by first | rw [aftZ_0] | rw [aftZ_1] | rw [aftZ_2] | rw [aftZ_3])
  · skip
    refine zv_tableIn (tgt := 62) hx hb dX0_after_18 ⟨by decide, by decide⟩ (by decide) (by decide) rfl (by decide) ?_
    refine lv_aload_n hx hb dX0_after_62 rfl (lv_at hl 2 rfl) ?_
    refine lv_iload_n hx hb dX0_after_63 rfl (lv_at hl 1 rfl) ?_
    refine zv_iconst hx hb dX0_after_64 ?_
    refine zv_iadd hx hb dX0_after_65 ?_
    refine lv_iload hx hb dX0_after_66 (lv_at hl 0 rfl) ?_
    refine lv_aload_n hx hb dX0_after_68 rfl (lv_at hl 2 rfl) ?_
    refine lv_iload_n hx hb dX0_after_69 rfl (lv_at hl 3 rfl) ?_
    refine zc_SN (As := [.int (iI z)]) (rest := [.ref fl, .int (iI ((z / 343) % 7)), .int (iI ((z / 343) / 7 + 1)), .ref fl]) (ws := [(fl, .inr (0, [.int (iI C), .int (iI R), .ref pn, .int (iI np)])), (pn, .inl (cI, 49, .inl (aI gn)))]) (n := 1) hx hb (hml.trans hl.1.symm) hts hown hK hP (c_X2_wordOf l D cI cJ z (by omega) (by omega)) q_112 q_111 q_1 (by decide +kernel) (by decide +kernel) rfl ⟨Nat.le_of_ble_eq_true rfl, Nat.le_of_ble_eq_true rfl⟩ ⟨Nat.zero_le _, Nat.zero_le _⟩ [] rfl rfl (Nat.le_of_ble_eq_true rfl) dX0_after_70 (fun r_7 hr_7 => ?_)
    subst hr_7
    refine lv_iload_n hx hb dX0_after_73 rfl (lv_at hl 1 rfl) ?_
    refine lv_iload hx hb dX0_after_74 (lv_at hl 0 rfl) ?_
    refine zc_V (As := [.int (iI (z % 343)), .int (iI ((z / 343) / 7)), .int (iI ((z / 343) % 7))]) (rest := [.int (iI ((z / 343) % 7)), .int (iI ((z / 343) / 7 + 1)), .ref fl]) (ws := [(fl, .inr (0, [.int (iI C), .int (iI R), .ref pn, .int (iI np)])), (pn, .inl (cI, 49, .inl (aI gn)))]) (n := 3) hx hb (hml.trans hl.1.symm) hts hown hK hP (c_X0_wordToTheRight l D cI cJ fl pn C R np gn N (z % 343) ((z / 343) / 7) ((z / 343) % 7) hF (by omega) (by omega) (by omega) (by omega) (by omega) (by omega)) (gd_V q_131 q_133 q_1004 q_3 q_134) (by decide +kernel) rfl ⟨Nat.le_of_ble_eq_true rfl, Nat.le_of_ble_eq_true rfl⟩ ⟨Nat.zero_le _, Nat.zero_le _⟩ [0, 1] rfl 0 (ci := 0) rfl rfl rfl rfl (Nat.le_of_ble_eq_true rfl) dX0_after_76 (fun r_8 hr_8 => ?_)
    subst hr_8
    have hwb := wRZ_b hF (c := z / 343 / 7) (r := z / 343 % 7) (w := z % 343) (by omega) (by omega) (by omega)
    refine zc_V (As := [.int (iI ((z / 343) / 7 + 1)), .int (iI ((z / 343) % 7)), .int (iI (wRZ N R ((z / 343) / 7) ((z / 343) % 7) (z % 343)))]) (rest := []) (ws := [(fl, .inr (0, [.int (iI C), .int (iI R), .ref pn, .int (iI np)])), (pn, .inl (cI, 49, .inl (aI gn)))]) (n := 3) hx hb (hml.trans hl.1.symm) hts hown hK hP (c_X0_placeAt l D cI cJ fl pn C R np gn N ((z / 343) / 7 + 1) ((z / 343) % 7) (wRZ N R ((z / 343) / 7) ((z / 343) % 7) (z % 343)) hF (by omega) (by omega) (by omega) (by omega) (by omega) (by omega)) (gd_V q_113 q_115 q_1002 q_3 q_116) (by decide +kernel) rfl ⟨Nat.le_of_ble_eq_true rfl, Nat.le_of_ble_eq_true rfl⟩ ⟨Nat.zero_le _, Nat.zero_le _⟩ [0, 1] rfl 0 (ci := 0) rfl rfl rfl rfl (Nat.le_of_ble_eq_true rfl) dX0_after_79 (fun r_9 hr_9 => ?_)
    subst hr_9
    exact PM_iret hx hb hr hlk dX0_after_82 (by first | rw [aftZ_0] | rw [aftZ_1] | rw [aftZ_2] | rw [aftZ_3])
  · skip
    refine zv_tableIn (tgt := 83) hx hb dX0_after_18 ⟨by decide, by decide⟩ (by decide) (by decide) rfl (by decide) ?_
    refine lv_aload_n hx hb dX0_after_83 rfl (lv_at hl 2 rfl) ?_
    refine lv_iload_n hx hb dX0_after_84 rfl (lv_at hl 1 rfl) ?_
    refine lv_iload hx hb dX0_after_85 (lv_at hl 0 rfl) ?_
    refine zv_iconst hx hb dX0_after_87 ?_
    refine zv_iadd hx hb dX0_after_88 ?_
    refine lv_iload_n hx hb dX0_after_89 rfl (lv_at hl 3 rfl) ?_
    refine zc_SN (As := [.int (iI z)]) (rest := [.int (iI ((z / 343) % 7 + 1)), .int (iI ((z / 343) / 7)), .ref fl]) (ws := [(fl, .inr (0, [.int (iI C), .int (iI R), .ref pn, .int (iI np)])), (pn, .inl (cI, 49, .inl (aI gn)))]) (n := 1) hx hb (hml.trans hl.1.symm) hts hown hK hP (c_X2_wordOf l D cI cJ z (by omega) (by omega)) q_112 q_111 q_1 (by decide +kernel) (by decide +kernel) rfl ⟨Nat.le_of_ble_eq_true rfl, Nat.le_of_ble_eq_true rfl⟩ ⟨Nat.zero_le _, Nat.zero_le _⟩ [] rfl rfl (Nat.le_of_ble_eq_true rfl) dX0_after_90 (fun r_10 hr_10 => ?_)
    subst hr_10
    refine zc_V (As := [.int (iI ((z / 343) / 7)), .int (iI ((z / 343) % 7 + 1)), .int (iI (z % 343))]) (rest := []) (ws := [(fl, .inr (0, [.int (iI C), .int (iI R), .ref pn, .int (iI np)])), (pn, .inl (cI, 49, .inl (aI gn)))]) (n := 3) hx hb (hml.trans hl.1.symm) hts hown hK hP (c_X0_placeAt l D cI cJ fl pn C R np gn N ((z / 343) / 7) ((z / 343) % 7 + 1) (z % 343) hF (by omega) (by omega) (by omega) (by omega) (by omega) (by omega)) (gd_V q_113 q_115 q_1002 q_3 q_116) (by decide +kernel) rfl ⟨Nat.le_of_ble_eq_true rfl, Nat.le_of_ble_eq_true rfl⟩ ⟨Nat.zero_le _, Nat.zero_le _⟩ [0, 1] rfl 0 (ci := 0) rfl rfl rfl rfl (Nat.le_of_ble_eq_true rfl) dX0_after_93 (fun r_11 hr_11 => ?_)
    subst hr_11
    exact PM_iret hx hb hr hlk dX0_after_96 (by first | rw [aftZ_0] | rw [aftZ_1] | rw [aftZ_2] | rw [aftZ_3])
  · skip
    refine zv_tableIn (tgt := 97) hx hb dX0_after_18 ⟨by decide, by decide⟩ (by decide) (by decide) rfl (by decide) ?_
    refine lv_aload_n hx hb dX0_after_97 rfl (lv_at hl 2 rfl) ?_
    refine lv_iload_n hx hb dX0_after_98 rfl (lv_at hl 1 rfl) ?_
    refine zv_iconst hx hb dX0_after_99 ?_
    refine zv_isub hx hb dX0_after_100 ?_
    refine lv_iload hx hb dX0_after_101 (lv_at hl 0 rfl) ?_
    refine lv_aload_n hx hb dX0_after_103 rfl (lv_at hl 2 rfl) ?_
    refine lv_iload_n hx hb dX0_after_104 rfl (lv_at hl 3 rfl) ?_
    refine zc_SN (As := [.int (iI z)]) (rest := [.ref fl, .int (iI ((z / 343) % 7)), .int (iI ((z / 343) / 7 - 1)), .ref fl]) (ws := [(fl, .inr (0, [.int (iI C), .int (iI R), .ref pn, .int (iI np)])), (pn, .inl (cI, 49, .inl (aI gn)))]) (n := 1) hx hb (hml.trans hl.1.symm) hts hown hK hP (c_X2_wordOf l D cI cJ z (by omega) (by omega)) q_112 q_111 q_1 (by decide +kernel) (by decide +kernel) rfl ⟨Nat.le_of_ble_eq_true rfl, Nat.le_of_ble_eq_true rfl⟩ ⟨Nat.zero_le _, Nat.zero_le _⟩ [] rfl rfl (Nat.le_of_ble_eq_true rfl) dX0_after_105 (fun r_12 hr_12 => ?_)
    subst hr_12
    refine lv_iload_n hx hb dX0_after_108 rfl (lv_at hl 1 rfl) ?_
    refine zv_iconst hx hb dX0_after_109 ?_
    refine zv_isub hx hb dX0_after_110 ?_
    refine lv_iload hx hb dX0_after_111 (lv_at hl 0 rfl) ?_
    refine zc_V (As := [.int (iI (z % 343)), .int (iI ((z / 343) / 7 - 1)), .int (iI ((z / 343) % 7))]) (rest := [.int (iI ((z / 343) % 7)), .int (iI ((z / 343) / 7 - 1)), .ref fl]) (ws := [(fl, .inr (0, [.int (iI C), .int (iI R), .ref pn, .int (iI np)])), (pn, .inl (cI, 49, .inl (aI gn)))]) (n := 3) hx hb (hml.trans hl.1.symm) hts hown hK hP (c_X0_wordToTheLeft l D cI cJ fl pn C R np gn N (z % 343) ((z / 343) / 7 - 1) ((z / 343) % 7) hF (by omega) (by omega) (by omega) (by omega) (by omega) (by omega)) (gd_V q_144 q_146 q_1005 q_3 q_147) (by decide +kernel) rfl ⟨Nat.le_of_ble_eq_true rfl, Nat.le_of_ble_eq_true rfl⟩ ⟨Nat.zero_le _, Nat.zero_le _⟩ [0, 1] rfl 0 (ci := 0) rfl rfl rfl rfl (Nat.le_of_ble_eq_true rfl) dX0_after_113 (fun r_13 hr_13 => ?_)
    subst hr_13
    have hwb := wLZ_b hF (c := z / 343 / 7 - 1) (r := z / 343 % 7) (w := z % 343) (by omega) (by omega) (by omega)
    refine zc_V (As := [.int (iI ((z / 343) / 7 - 1)), .int (iI ((z / 343) % 7)), .int (iI (wLZ N R ((z / 343) / 7 - 1) ((z / 343) % 7) (z % 343)))]) (rest := []) (ws := [(fl, .inr (0, [.int (iI C), .int (iI R), .ref pn, .int (iI np)])), (pn, .inl (cI, 49, .inl (aI gn)))]) (n := 3) hx hb (hml.trans hl.1.symm) hts hown hK hP (c_X0_placeAt l D cI cJ fl pn C R np gn N ((z / 343) / 7 - 1) ((z / 343) % 7) (wLZ N R ((z / 343) / 7 - 1) ((z / 343) % 7) (z % 343)) hF (by omega) (by omega) (by omega) (by omega) (by omega) (by omega)) (gd_V q_113 q_115 q_1002 q_3 q_116) (by decide +kernel) rfl ⟨Nat.le_of_ble_eq_true rfl, Nat.le_of_ble_eq_true rfl⟩ ⟨Nat.zero_le _, Nat.zero_le _⟩ [0, 1] rfl 0 (ci := 0) rfl rfl rfl rfl (Nat.le_of_ble_eq_true rfl) dX0_after_116 (fun r_14 hr_14 => ?_)
    subst hr_14
    exact PM_iret hx hb hr hlk dX0_after_119 (by first | rw [aftZ_0] | rw [aftZ_1] | rw [aftZ_2] | rw [aftZ_3])
end
section
/-- lengths: an array's contents as a function of places, -1 where there is none -/
def LenOK (L : Int → Int) (g : Nat → Int) : Prop := (∀ k : Nat, k < 16807 → g k = L (k : Int)) ∧ (∀ z : Int, -1 ≤ L z ∧ L z < 20000) ∧ ∀ z : Int, z < 0 ∨ 16807 ≤ z → L z = -1
theorem LenOK.g {L : Int → Int} {g : Nat → Int} (h : LenOK L g) {z : Int} (h0 : 0 ≤ z) (h1 : z < 16807) : g z.toNat = L z := by
  rw [h.1 z.toNat (by omega), Int.toNat_of_nonneg h0]
theorem LenOK.b {L : Int → Int} {g : Nat → Int} (h : LenOK L g) (z : Int) : -1 ≤ L z ∧ L z < 20000 := h.2.1 z
theorem LenOK.o {L : Int → Int} {g : Nat → Int} (h : LenOK L g) (z : Int) (hz : z < 0 ∨ 16807 ≤ z) : L z = -1 := h.2.2 z hz
/-- a place's number on the floor -/
def PlOK (R z : Int) : Prop := 0 ≤ z ∧ z < 16807 ∧ z / 343 % 7 < R
theorem plZ_b {C R : Int} {N : Int → Int} {a b w : Int} (hC : C ≤ 7) (hR : R ≤ 7) (hw : 0 ≤ w) : plZ C R N a b w = -1 ∨ PlOK R (plZ C R N a b w) := by
  unfold plZ PlOK
  split
  · right; omega
  · left; rfl
theorem aftZ_ok {C R np : Int} {N : Int → Int} {gn : Nat → Int} (hF : FlOK C R np N gn) {z d : Int} (hz : PlOK R z) : aftZ C R N z d = -1 ∨ PlOK R (aftZ C R N z d) := by
  obtain ⟨z1, z2, z3⟩ := hz
  have hwR := wRZ_b hF (c := z / 343 / 7) (r := z / 343 % 7) (w := z % 343) (by omega) (by omega) (by omega)
  have hwL := wLZ_b hF (c := z / 343 / 7 - 1) (r := z / 343 % 7) (w := z % 343) (by omega) (by omega) (by omega)
  obtain ⟨h1, h2, h3, h4, -⟩ := hF
  unfold aftZ
  split
  · exact plZ_b h2 h4 (by omega)
  · split
    · exact plZ_b h2 h4 hwR.1
    · split
      · exact plZ_b h2 h4 (by omega)
      · exact plZ_b h2 h4 hwL.1
theorem aftZ_b {C R np : Int} {N : Int → Int} {gn : Nat → Int} (hF : FlOK C R np N gn) {z d : Int} (h0 : 0 ≤ z) (h1 : z < 16807) (h2 : z / 343 % 7 < R) : -1 ≤ aftZ C R N z d ∧ aftZ C R N z d < 16807 := by
  rcases aftZ_ok hF (d := d) ⟨h0, h1, h2⟩ with h | ⟨h, h', -⟩ <;> omega
/-- a step of the crawler -/
def astZ (C R : Int) (N L : Int → Int) (lim z d : Int) : Int := if L (aftZ C R N z d) ≠ -1 ∧ L (aftZ C R N z d) ≤ lim then aftZ C R N z d else -1
/-- the direction in which the cable goes on; -1 at its end -/
def cdZ (C R : Int) (N L : Int → Int) (z : Int) : Int := if L z < 1 then -1 else if L (aftZ C R N z 0) = L z - 1 then 0 else if L (aftZ C R N z 1) = L z - 1 then 1 else if L (aftZ C R N z 2) = L z - 1 then 2 else if L (aftZ C R N z 3) = L z - 1 then 3 else -1
/-- the place behind n steps along the cable -/
def alZ (C R : Int) (N L : Int → Int) (z : Int) : Nat → Int
  | 0 => z
  | n + 1 => aftZ C R N (alZ C R N L z n) (cdZ C R N L (alZ C R N L z n))
/-- the bends among the first n + 1 steps of the cable -/
def bdN (C R : Int) (N L : Int → Int) (z : Int) : Nat → Int
  | 0 => 0
  | n + 1 => bdN C R N L z n + if cdZ C R N L (alZ C R N L z (n + 1)) = cdZ C R N L (alZ C R N L z n) then 0 else 1
/-- the least length among the first n words of a square -/
def lsN (L : Int → Int) (q : Int) : Nat → Int
  | 0 => -1
  | n + 1 => if L (q * 343 + n) ≠ -1 ∧ (lsN L q n = -1 ∨ L (q * 343 + n) < lsN L q n) then L (q * 343 + n) else lsN L q n
def lsZ (L : Int → Int) (q : Int) : Int := lsN L q 343
/-- how many of the first n words of a square are within the limit -/
def wdN (L : Int → Int) (lim q : Int) : Nat → Int
  | 0 => 0
  | n + 1 => wdN L lim q n + if L (q * 343 + n) ≠ -1 ∧ L (q * 343 + n) ≤ lim then 1 else 0
/-- how many of the first n squares are within the limit -/
def sqN (L : Int → Int) (lim : Int) : Nat → Int
  | 0 => 0
  | n + 1 => sqN L lim n + if lsZ L n ≠ -1 ∧ lsZ L n ≤ lim then 1 else 0
theorem lsN_b {L : Int → Int} {g : Nat → Int} (h : LenOK L g) (q : Int) : ∀ n : Nat, -1 ≤ lsN L q n ∧ lsN L q n < 20000 := by
  intro n
  induction n with
  | zero => unfold lsN; omega
  | succ n ih =>
    have := h.b (q * 343 + n)
    unfold lsN
    split <;> assumption
theorem lsZ_b {L : Int → Int} {g : Nat → Int} (h : LenOK L g) (q : Int) : -1 ≤ lsZ L q ∧ lsZ L q < 20000 := lsN_b h q 343
/-- the cable's first k steps can be gone -/
def AlOK (C R : Int) (N L : Int → Int) (z : Int) (k : Int) : Prop := ∀ j : Nat, (j : Int) < k → PlOK R (alZ C R N L z j) ∧ 0 ≤ cdZ C R N L (alZ C R N L z j) ∧ cdZ C R N L (alZ C R N L z j) ≤ 3
theorem cdZ_b (C R : Int) (N L : Int → Int) (z : Int) : -1 ≤ cdZ C R N L z ∧ cdZ C R N L z ≤ 3 := by
  unfold cdZ
  (repeat' split) <;> omega
end
section
set_option maxRecDepth 100000 in
set_option maxHeartbeats 4000000 in
theorem c_X1_distanceOf (l : Launch) (D : va_G) (cI cJ : ClassId) (sp da ra : Nat) (ct : Int) (g : Nat → Int) (L : Int → Int) (z : Int) (hL : LenOK L g) (hz1 : -2147483648 ≤ z) (hz2 : z < 2147483648) : PM l yX1_distanceOf (.code yX1_distanceOf cX1_distanceOf 2 (some .int)) 0 [.ref sp, .int (iI z)] D cI cJ [(sp, .inr (1, [.ref da, .ref ra, .int (iI ct)])), (da, .inl (cI, 16807, .inl (aI g)))] (fun r => r = L z) := by
  refine PM_of (by decide) rfl (Nat.le_of_ble_eq_true rfl) (fun p e s m below meth c ls hx hb hr hts hown hlk hml hK hP hl => ?_)
  have hl : lv_has ls 2 [(0, .ref sp), (1, .int (iI z))] := hl
  refine lv_iload_n hx hb dX1_distanceOf_0 rfl (lv_at hl 1 rfl) ?_
  refine zv_if_lt hx hb dX1_distanceOf_1 (tgt := 22) (by decide) ⟨by omega, by omega⟩ (fun c_1 => ?_) (fun c_1 => ?_)
  · refine zv_iconst hx hb dX1_distanceOf_22 ?_
    exact PM_iret hx hb hr hlk dX1_distanceOf_23 (by first | rfl | exact (hL.o z (by omega)).symm)
  · refine lv_iload_n hx hb dX1_distanceOf_4 rfl (lv_at hl 1 rfl) ?_
    refine lv_aload_n hx hb dX1_distanceOf_5 rfl (lv_at hl 0 rfl) ?_
    refine va_get (D := D) (ci := 1) (v := .ref da) (C := RX1) (T := TX1) (N := 3) hx hb hts uX1 hown hK.1 hP 0 rfl rfl 0 (by decide) (hts _ q_28) (fun _ h9 => h9) rfl dX1_distanceOf_6 ?_
    refine zv_alen hx hb hK.1 hP 1 0 rfl rfl dX1_distanceOf_9 ?_
    refine zv_icmp_ge hx hb dX1_distanceOf_10 (tgt := 22) (by decide) ⟨by omega, by omega⟩ ⟨by omega, by omega⟩ (fun c_2 => ?_) (fun c_2 => ?_)
    · refine zv_iconst hx hb dX1_distanceOf_22 ?_
      exact PM_iret hx hb hr hlk dX1_distanceOf_23 (by first | rfl | exact (hL.o z (by omega)).symm)
    · refine lv_aload_n hx hb dX1_distanceOf_13 rfl (lv_at hl 0 rfl) ?_
      refine va_get (D := D) (ci := 1) (v := .ref da) (C := RX1) (T := TX1) (N := 3) hx hb hts uX1 hown hK.1 hP 0 rfl rfl 0 (by decide) (hts _ q_28) (fun _ h9 => h9) rfl dX1_distanceOf_14 ?_
      refine lv_iload_n hx hb dX1_distanceOf_17 rfl (lv_at hl 1 rfl) ?_
      refine zv_iald hx hb hK.1 hP 1 0 rfl rfl (by omega) (by omega) (by omega) dX1_distanceOf_18 ?_
      refine zv_top (y := L z) (hL.g (by omega) (by omega)) ?_
      refine lv_goto (tgt := 23) hx hb dX1_distanceOf_19 (by decide) ?_
      exact PM_iret hx hb hr hlk dX1_distanceOf_23 (by first | rfl | exact (hL.o z (by omega)).symm)
set_option maxRecDepth 100000 in
set_option maxHeartbeats 4000000 in
theorem c_X1_count (l : Launch) (D : va_G) (cI cJ : ClassId) (sp da ra : Nat) (ct : Int) : PM l yX1_count (.code yX1_count cX1_count 1 (some .int)) 0 [.ref sp] D cI cJ [(sp, .inr (1, [.ref da, .ref ra, .int (iI ct)]))] (fun r => r = ct) := by
  refine PM_of (by decide) rfl (Nat.le_of_ble_eq_true rfl) (fun p e s m below meth c ls hx hb hr hts hown hlk hml hK hP hl => ?_)
  have hl : lv_has ls 1 [(0, .ref sp)] := hl
  refine lv_aload_n hx hb dX1_count_0 rfl (lv_at hl 0 rfl) ?_
  refine va_get (D := D) (ci := 1) (v := .int (iI ct)) (C := RX1) (T := TX1) (N := 3) hx hb hts uX1 hown hK.1 hP 0 rfl rfl 2 (by decide) (hts _ q_30) (fun _ h9 => h9) rfl dX1_count_1 ?_
  exact PM_iret hx hb hr hlk dX1_count_4 (by first | rfl | omega)
set_option maxRecDepth 100000 in
set_option maxHeartbeats 4000000 in
theorem c_X1_placeAt (l : Launch) (D : va_G) (cI cJ : ClassId) (sp da ra : Nat) (ct : Int) (h : Nat → Int) (i : Int) (hc1 : 0 ≤ ct) (hc2 : ct ≤ 9163) (hi0 : 0 ≤ i) (hi1 : i < ct) : PM l yX1_placeAt (.code yX1_placeAt cX1_placeAt 2 (some .int)) 0 [.ref sp, .int (iI i)] D cI cJ [(sp, .inr (1, [.ref da, .ref ra, .int (iI ct)])), (ra, .inl (cI, 9163, .inl (aI h)))] (fun r => r = (h i.toNat)) := by
  refine PM_of (by decide) rfl (Nat.le_of_ble_eq_true rfl) (fun p e s m below meth c ls hx hb hr hts hown hlk hml hK hP hl => ?_)
  have hl : lv_has ls 2 [(0, .ref sp), (1, .int (iI i))] := hl
  refine lv_iload_n hx hb dX1_placeAt_0 rfl (lv_at hl 1 rfl) ?_
  refine zv_if_lt hx hb dX1_placeAt_1 (tgt := 30) (by decide) ⟨by omega, by omega⟩ (fun c_1 => by exfalso; omega) (fun c_1 => ?_)
  refine lv_iload_n hx hb dX1_placeAt_4 rfl (lv_at hl 1 rfl) ?_
  refine lv_aload_n hx hb dX1_placeAt_5 rfl (lv_at hl 0 rfl) ?_
  refine va_get (D := D) (ci := 1) (v := .int (iI ct)) (C := RX1) (T := TX1) (N := 3) hx hb hts uX1 hown hK.1 hP 0 rfl rfl 2 (by decide) (hts _ q_30) (fun _ h9 => h9) rfl dX1_placeAt_6 ?_
  refine zv_icmp_ge hx hb dX1_placeAt_9 (tgt := 30) (by decide) ⟨by omega, by omega⟩ ⟨by omega, by omega⟩ (fun c_2 => by exfalso; omega) (fun c_2 => ?_)
  refine lv_iload_n hx hb dX1_placeAt_12 rfl (lv_at hl 1 rfl) ?_
  refine lv_aload_n hx hb dX1_placeAt_13 rfl (lv_at hl 0 rfl) ?_
  refine va_get (D := D) (ci := 1) (v := .ref ra) (C := RX1) (T := TX1) (N := 3) hx hb hts uX1 hown hK.1 hP 0 rfl rfl 1 (by decide) (hts _ q_29) (fun _ h9 => h9) rfl dX1_placeAt_14 ?_
  refine zv_alen hx hb hK.1 hP 1 0 rfl rfl dX1_placeAt_17 ?_
  refine zv_icmp_ge hx hb dX1_placeAt_18 (tgt := 30) (by decide) ⟨by omega, by omega⟩ ⟨by omega, by omega⟩ (fun c_3 => by exfalso; omega) (fun c_3 => ?_)
  refine lv_aload_n hx hb dX1_placeAt_21 rfl (lv_at hl 0 rfl) ?_
  refine va_get (D := D) (ci := 1) (v := .ref ra) (C := RX1) (T := TX1) (N := 3) hx hb hts uX1 hown hK.1 hP 0 rfl rfl 1 (by decide) (hts _ q_29) (fun _ h9 => h9) rfl dX1_placeAt_22 ?_
  refine lv_iload_n hx hb dX1_placeAt_25 rfl (lv_at hl 1 rfl) ?_
  refine zv_iald hx hb hK.1 hP 1 0 rfl rfl (by omega) (by omega) (by omega) dX1_placeAt_26 ?_
  refine lv_goto (tgt := 31) hx hb dX1_placeAt_27 (by decide) ?_
  exact PM_iret hx hb hr hlk dX1_placeAt_31 (by first | rfl | omega)
set_option maxRecDepth 100000 in
set_option maxHeartbeats 4000000 in
theorem c_X2_isWithinLimit (l : Launch) (D : va_G) (cI cJ : ClassId) (tt fl s1 s2 pn d1 r1 : Nat) (lim bs P sm C R np c1 : Int) (gn g1 : Nat → Int) (N L : Int → Int) (x : Int) (hF : FlOK C R np N gn) (hL : LenOK L g1) (hlm : 1 ≤ lim ∧ lim ≤ 60) (hx1 : -2147483648 ≤ x) (hx2 : x < 2147483648) : PM l yX2_isWithinLimit (.code yX2_isWithinLimit cX2_isWithinLimit 2 (some .boolean)) 0 [.ref tt, .int (iI x)] D cI cJ [(tt, .inr (2, [.ref fl, .int (iI lim), .ref s1, .ref s2, .int (iI bs), .int (iI P), .int (iI sm)])), (fl, .inr (0, [.int (iI C), .int (iI R), .ref pn, .int (iI np)])), (pn, .inl (cI, 49, .inl (aI gn))), (s1, .inr (1, [.ref d1, .ref r1, .int (iI c1)])), (d1, .inl (cI, 16807, .inl (aI g1)))] (fun r => (r = 1 ∧ (x ≠ -1 ∧ x ≤ lim)) ∨ (r = 0 ∧ ¬ (x ≠ -1 ∧ x ≤ lim))) := by
  obtain ⟨hC1, hC2, hR1, hR2, hp1, hp2, -, -⟩ := id hF
  refine PM_of (by decide) rfl (Nat.le_of_ble_eq_true rfl) (fun p e s m below meth c ls hx hb hr hts hown hlk hml hK hP hl => ?_)
  have hl : lv_has ls 2 [(0, .ref tt), (1, .int (iI x))] := hl
  refine lv_iload_n hx hb dX2_isWithinLimit_0 rfl (lv_at hl 1 rfl) ?_
  refine zv_iconst hx hb dX2_isWithinLimit_1 ?_
  refine zv_icmp_eq hx hb dX2_isWithinLimit_2 (tgt := 17) (by decide) ⟨by omega, by omega⟩ ⟨by omega, by omega⟩ (fun c_1 => ?_) (fun c_1 => ?_)
  · refine zv_iconst hx hb dX2_isWithinLimit_17 ?_
    exact PM_zret hx hb hr hlk dX2_isWithinLimit_18 (by first | rfl | decide) (by omega)
  · refine lv_iload_n hx hb dX2_isWithinLimit_5 rfl (lv_at hl 1 rfl) ?_
    refine lv_aload_n hx hb dX2_isWithinLimit_6 rfl (lv_at hl 0 rfl) ?_
    refine va_get (D := D) (ci := 2) (v := .int (iI lim)) (C := RX2) (T := TX2) (N := 7) hx hb hts uX2 hown hK.1 hP 0 rfl rfl 1 (by decide) (hts _ q_158) (fun _ h9 => h9) rfl dX2_isWithinLimit_7 ?_
    refine zv_icmp_gt hx hb dX2_isWithinLimit_10 (tgt := 17) (by decide) ⟨by omega, by omega⟩ ⟨by omega, by omega⟩ (fun c_2 => ?_) (fun c_2 => ?_)
    · refine zv_iconst hx hb dX2_isWithinLimit_17 ?_
      exact PM_zret hx hb hr hlk dX2_isWithinLimit_18 (by first | rfl | decide) (by omega)
    · refine zv_iconst hx hb dX2_isWithinLimit_13 ?_
      refine lv_goto (tgt := 18) hx hb dX2_isWithinLimit_14 (by decide) ?_
      exact PM_zret hx hb hr hlk dX2_isWithinLimit_18 (by first | rfl | decide) (by omega)
set_option maxRecDepth 100000 in
set_option maxHeartbeats 4000000 in
theorem c_X2_afterStep (l : Launch) (D : va_G) (cI cJ : ClassId) (tt fl s1 s2 pn d1 r1 : Nat) (lim bs P sm C R np c1 : Int) (gn g1 : Nat → Int) (N L : Int → Int) (z d : Int) (hF : FlOK C R np N gn) (hL : LenOK L g1) (hlm : 1 ≤ lim ∧ lim ≤ 60) (hz0 : 0 ≤ z) (hz1 : z < 16807) (hd0 : 0 ≤ d) (hd1 : d ≤ 3) (hpr : z / 343 % 7 < R) : PM l yX2_afterStep (.code yX2_afterStep cX2_afterStep 4 (some .int)) 5 [.ref tt, .int (iI z), .int (iI d)] D cI cJ [(tt, .inr (2, [.ref fl, .int (iI lim), .ref s1, .ref s2, .int (iI bs), .int (iI P), .int (iI sm)])), (fl, .inr (0, [.int (iI C), .int (iI R), .ref pn, .int (iI np)])), (pn, .inl (cI, 49, .inl (aI gn))), (s1, .inr (1, [.ref d1, .ref r1, .int (iI c1)])), (d1, .inl (cI, 16807, .inl (aI g1)))] (fun r => r = astZ C R N L lim z d) := by
  obtain ⟨hC1, hC2, hR1, hR2, hp1, hp2, -, -⟩ := id hF
  refine PM_of (by decide) rfl (Nat.le_of_ble_eq_true rfl) (fun p e s m below meth c ls hx hb hr hts hown hlk hml hK hP hl => ?_)
  have hl : lv_has ls 4 [(0, .ref tt), (1, .int (iI z)), (2, .int (iI d))] := hl
  refine lv_aload_n hx hb dX2_afterStep_0 rfl (lv_at hl 0 rfl) ?_
  refine va_get (D := D) (ci := 2) (v := .ref fl) (C := RX2) (T := TX2) (N := 7) hx hb hts uX2 hown hK.1 hP 0 rfl rfl 0 (by decide) (hts _ q_157) (fun _ h9 => h9) rfl dX2_afterStep_1 ?_
  refine lv_iload_n hx hb dX2_afterStep_4 rfl (lv_at hl 1 rfl) ?_
  refine lv_iload_n hx hb dX2_afterStep_5 rfl (lv_at hl 2 rfl) ?_
  refine zc_V (As := [.int (iI z), .int (iI d)]) (rest := []) (ws := [(tt, .inr (2, [.ref fl, .int (iI lim), .ref s1, .ref s2, .int (iI bs), .int (iI P), .int (iI sm)])), (fl, .inr (0, [.int (iI C), .int (iI R), .ref pn, .int (iI np)])), (pn, .inl (cI, 49, .inl (aI gn))), (s1, .inr (1, [.ref d1, .ref r1, .int (iI c1)])), (d1, .inl (cI, 16807, .inl (aI g1)))]) (n := 2) hx hb (hml.trans hl.1.symm) hts hown hK hP (c_X0_after l D cI cJ fl pn C R np gn N z d hF (by omega) (by omega) (by omega) (by omega) (by omega)) (gd_V q_97 q_98 q_99 q_3 q_100) (by decide +kernel) rfl ⟨Nat.le_of_ble_eq_true rfl, Nat.le_of_ble_eq_true rfl⟩ ⟨Nat.zero_le _, Nat.zero_le _⟩ [1, 2] rfl 1 (ci := 0) rfl rfl rfl rfl (Nat.le_of_ble_eq_true rfl) dX2_afterStep_6 (fun r_1 hr_1 => ?_)
  subst hr_1
  refine lv_istore_n (lv' := [(3, .int (iI (aftZ C R N z d))), (0, .ref tt), (1, .int (iI z)), (2, .int (iI d))]) hx hb dX2_afterStep_9 rfl hl (by decide) rfl (fun ls hl => ?_)
  refine lv_aload_n hx hb dX2_afterStep_10 rfl (lv_at hl 1 rfl) ?_
  refine lv_aload_n hx hb dX2_afterStep_11 rfl (lv_at hl 1 rfl) ?_
  refine va_get (D := D) (ci := 2) (v := .ref s1) (C := RX2) (T := TX2) (N := 7) hx hb hts uX2 hown hK.1 hP 0 rfl rfl 2 (by decide) (hts _ q_159) (fun _ h9 => h9) rfl dX2_afterStep_12 ?_
  have hab := aftZ_b hF (z := z) (d := d) (by omega) (by omega) (by omega)
  have hLb := hL.b (aftZ C R N z d)
  refine lv_iload_n hx hb dX2_afterStep_15 rfl (lv_at hl 0 rfl) ?_
  refine zc_V (As := [.int (iI (aftZ C R N z d))]) (rest := [.ref tt]) (ws := [(tt, .inr (2, [.ref fl, .int (iI lim), .ref s1, .ref s2, .int (iI bs), .int (iI P), .int (iI sm)])), (fl, .inr (0, [.int (iI C), .int (iI R), .ref pn, .int (iI np)])), (pn, .inl (cI, 49, .inl (aI gn))), (s1, .inr (1, [.ref d1, .ref r1, .int (iI c1)])), (d1, .inl (cI, 16807, .inl (aI g1)))]) (n := 1) hx hb (hml.trans hl.1.symm) hts hown hK hP (c_X1_distanceOf l D cI cJ s1 d1 r1 c1 g1 L (aftZ C R N z d) hL (by omega) (by omega)) (gd_V q_202 q_154 q_155 q_2 q_156) (by decide +kernel) rfl ⟨Nat.le_of_ble_eq_true rfl, Nat.le_of_ble_eq_true rfl⟩ ⟨Nat.zero_le _, Nat.zero_le _⟩ [3, 4] rfl 3 (ci := 1) rfl rfl rfl rfl (Nat.le_of_ble_eq_true rfl) dX2_afterStep_16 (fun r_2 hr_2 => ?_)
  subst hr_2
  refine zc_V (As := [.int (iI (L (aftZ C R N z d)))]) (rest := []) (ws := [(tt, .inr (2, [.ref fl, .int (iI lim), .ref s1, .ref s2, .int (iI bs), .int (iI P), .int (iI sm)])), (fl, .inr (0, [.int (iI C), .int (iI R), .ref pn, .int (iI np)])), (pn, .inl (cI, 49, .inl (aI gn))), (s1, .inr (1, [.ref d1, .ref r1, .int (iI c1)])), (d1, .inl (cI, 16807, .inl (aI g1)))]) (n := 1) hx hb (hml.trans hl.1.symm) hts hown hK hP (c_X2_isWithinLimit l D cI cJ tt fl s1 s2 pn d1 r1 lim bs P sm C R np c1 gn g1 N L (L (aftZ C R N z d)) hF hL hlm (by omega) (by omega)) (gd_V q_228 q_230 q_1008 q_1 q_231) (by decide +kernel) rfl ⟨Nat.le_of_ble_eq_true rfl, Nat.le_of_ble_eq_true rfl⟩ ⟨Nat.zero_le _, Nat.zero_le _⟩ [0, 1, 2, 3, 4] rfl 0 (ci := 2) rfl rfl rfl rfl (Nat.le_of_ble_eq_true rfl) dX2_afterStep_19 (fun r_3 hr_3 => ?_)
  refine zv_if_eq hx hb dX2_afterStep_22 (tgt := 29) (by decide) ⟨by omega, by omega⟩ (fun c_4 => ?_) (fun c_4 => ?_)
  · refine zv_iconst hx hb dX2_afterStep_29 ?_
    exact PM_iret hx hb hr hlk dX2_afterStep_30 (by unfold astZ; first | rw [if_pos (by omega)] | rw [if_neg (by omega)])
  · refine lv_iload_n hx hb dX2_afterStep_25 rfl (lv_at hl 0 rfl) ?_
    refine lv_goto (tgt := 30) hx hb dX2_afterStep_26 (by decide) ?_
    exact PM_iret hx hb hr hlk dX2_afterStep_30 (by unfold astZ; first | rw [if_pos (by omega)] | rw [if_neg (by omega)])
set_option maxRecDepth 100000 in
set_option maxHeartbeats 4000000 in
theorem c_X2_cableDirection (l : Launch) (D : va_G) (cI cJ : ClassId) (tt fl s1 s2 pn d1 r1 : Nat) (lim bs P sm C R np c1 : Int) (gn g1 : Nat → Int) (N L : Int → Int) (z : Int) (hF : FlOK C R np N gn) (hL : LenOK L g1) (hlm : 1 ≤ lim ∧ lim ≤ 60) (hz0 : 0 ≤ z) (hz1 : z < 16807) (hpr : z / 343 % 7 < R) : PM l yX2_cableDirection (.code yX2_cableDirection cX2_cableDirection 4 (some .int)) 5 [.ref tt, .int (iI z)] D cI cJ [(tt, .inr (2, [.ref fl, .int (iI lim), .ref s1, .ref s2, .int (iI bs), .int (iI P), .int (iI sm)])), (fl, .inr (0, [.int (iI C), .int (iI R), .ref pn, .int (iI np)])), (pn, .inl (cI, 49, .inl (aI gn))), (s1, .inr (1, [.ref d1, .ref r1, .int (iI c1)])), (d1, .inl (cI, 16807, .inl (aI g1)))] (fun r => r = cdZ C R N L z) := by
  obtain ⟨hC1, hC2, hR1, hR2, hp1, hp2, -, -⟩ := id hF
  have hLz := hL.b z
  have hab0 := aftZ_b hF (z := z) (d := 0) (by omega) (by omega) (by omega)
  have hLb0 := hL.b (aftZ C R N z 0)
  have hab1 := aftZ_b hF (z := z) (d := 1) (by omega) (by omega) (by omega)
  have hLb1 := hL.b (aftZ C R N z 1)
  have hab2 := aftZ_b hF (z := z) (d := 2) (by omega) (by omega) (by omega)
  have hLb2 := hL.b (aftZ C R N z 2)
  have hab3 := aftZ_b hF (z := z) (d := 3) (by omega) (by omega) (by omega)
  have hLb3 := hL.b (aftZ C R N z 3)
  refine PM_of (by decide) rfl (Nat.le_of_ble_eq_true rfl) (fun p e s m below meth c ls hx hb hr hts hown hlk hml hK hP hl => ?_)
  have hl : lv_has ls 4 [(0, .ref tt), (1, .int (iI z))] := hl
  refine lv_aload_n hx hb dX2_cableDirection_0 rfl (lv_at hl 0 rfl) ?_
  refine va_get (D := D) (ci := 2) (v := .ref s1) (C := RX2) (T := TX2) (N := 7) hx hb hts uX2 hown hK.1 hP 0 rfl rfl 2 (by decide) (hts _ q_159) (fun _ h9 => h9) rfl dX2_cableDirection_1 ?_
  refine lv_iload_n hx hb dX2_cableDirection_4 rfl (lv_at hl 1 rfl) ?_
  refine zc_V (As := [.int (iI z)]) (rest := []) (ws := [(tt, .inr (2, [.ref fl, .int (iI lim), .ref s1, .ref s2, .int (iI bs), .int (iI P), .int (iI sm)])), (fl, .inr (0, [.int (iI C), .int (iI R), .ref pn, .int (iI np)])), (pn, .inl (cI, 49, .inl (aI gn))), (s1, .inr (1, [.ref d1, .ref r1, .int (iI c1)])), (d1, .inl (cI, 16807, .inl (aI g1)))]) (n := 1) hx hb (hml.trans hl.1.symm) hts hown hK hP (c_X1_distanceOf l D cI cJ s1 d1 r1 c1 g1 L z hL (by omega) (by omega)) (gd_V q_202 q_154 q_155 q_2 q_156) (by decide +kernel) rfl ⟨Nat.le_of_ble_eq_true rfl, Nat.le_of_ble_eq_true rfl⟩ ⟨Nat.zero_le _, Nat.zero_le _⟩ [3, 4] rfl 3 (ci := 1) rfl rfl rfl rfl (Nat.le_of_ble_eq_true rfl) dX2_cableDirection_5 (fun r_1 hr_1 => ?_)
  subst hr_1
  refine lv_istore_n (lv' := [(2, .int (iI (L z))), (0, .ref tt), (1, .int (iI z))]) hx hb dX2_cableDirection_8 rfl hl (by decide) rfl (fun ls hl => ?_)
  refine lv_iload_n hx hb dX2_cableDirection_9 rfl (lv_at hl 0 rfl) ?_
  refine zv_iconst hx hb dX2_cableDirection_10 ?_
  refine zv_icmp_ge hx hb dX2_cableDirection_11 (tgt := 16) (by decide) ⟨by omega, by omega⟩ ⟨by omega, by omega⟩ (fun c_2 => ?_) (fun c_2 => ?_)
  · refine zv_iconst hx hb dX2_cableDirection_16 ?_
    refine lv_istore_n (lv' := [(3, .int (iI 0)), (2, .int (iI (L z))), (0, .ref tt), (1, .int (iI z))]) hx hb dX2_cableDirection_17 rfl hl (by decide) rfl (fun ls hl => ?_)
    refine lv_iload_n hx hb dX2_cableDirection_18 rfl (lv_at hl 0 rfl) ?_
    refine zv_iconst hx hb dX2_cableDirection_19 ?_
    refine zv_icmp_ge hx hb dX2_cableDirection_20 (tgt := 53) (by decide) ⟨by omega, by omega⟩ ⟨by omega, by omega⟩ (fun c_3 => by exfalso; omega) (fun c_3 => ?_)
    refine lv_aload_n hx hb dX2_cableDirection_23 rfl (lv_at hl 2 rfl) ?_
    refine va_get (D := D) (ci := 2) (v := .ref s1) (C := RX2) (T := TX2) (N := 7) hx hb hts uX2 hown hK.1 hP 0 rfl rfl 2 (by decide) (hts _ q_159) (fun _ h9 => h9) rfl dX2_cableDirection_24 ?_
    refine lv_aload_n hx hb dX2_cableDirection_27 rfl (lv_at hl 2 rfl) ?_
    refine va_get (D := D) (ci := 2) (v := .ref fl) (C := RX2) (T := TX2) (N := 7) hx hb hts uX2 hown hK.1 hP 0 rfl rfl 0 (by decide) (hts _ q_157) (fun _ h9 => h9) rfl dX2_cableDirection_28 ?_
    refine lv_iload_n hx hb dX2_cableDirection_31 rfl (lv_at hl 3 rfl) ?_
    refine lv_iload_n hx hb dX2_cableDirection_32 rfl (lv_at hl 0 rfl) ?_
    refine zc_V (As := [.int (iI z), .int (iI 0)]) (rest := [.ref s1]) (ws := [(tt, .inr (2, [.ref fl, .int (iI lim), .ref s1, .ref s2, .int (iI bs), .int (iI P), .int (iI sm)])), (fl, .inr (0, [.int (iI C), .int (iI R), .ref pn, .int (iI np)])), (pn, .inl (cI, 49, .inl (aI gn))), (s1, .inr (1, [.ref d1, .ref r1, .int (iI c1)])), (d1, .inl (cI, 16807, .inl (aI g1)))]) (n := 2) hx hb (hml.trans hl.1.symm) hts hown hK hP (c_X0_after l D cI cJ fl pn C R np gn N z 0 hF (by omega) (by omega) (by omega) (by omega) (by omega)) (gd_V q_97 q_98 q_99 q_3 q_100) (by decide +kernel) rfl ⟨Nat.le_of_ble_eq_true rfl, Nat.le_of_ble_eq_true rfl⟩ ⟨Nat.zero_le _, Nat.zero_le _⟩ [1, 2] rfl 1 (ci := 0) rfl rfl rfl rfl (Nat.le_of_ble_eq_true rfl) dX2_cableDirection_33 (fun r_4 hr_4 => ?_)
    subst hr_4
    refine zc_V (As := [.int (iI (aftZ C R N z 0))]) (rest := []) (ws := [(tt, .inr (2, [.ref fl, .int (iI lim), .ref s1, .ref s2, .int (iI bs), .int (iI P), .int (iI sm)])), (fl, .inr (0, [.int (iI C), .int (iI R), .ref pn, .int (iI np)])), (pn, .inl (cI, 49, .inl (aI gn))), (s1, .inr (1, [.ref d1, .ref r1, .int (iI c1)])), (d1, .inl (cI, 16807, .inl (aI g1)))]) (n := 1) hx hb (hml.trans hl.1.symm) hts hown hK hP (c_X1_distanceOf l D cI cJ s1 d1 r1 c1 g1 L (aftZ C R N z 0) hL (by omega) (by omega)) (gd_V q_202 q_154 q_155 q_2 q_156) (by decide +kernel) rfl ⟨Nat.le_of_ble_eq_true rfl, Nat.le_of_ble_eq_true rfl⟩ ⟨Nat.zero_le _, Nat.zero_le _⟩ [3, 4] rfl 3 (ci := 1) rfl rfl rfl rfl (Nat.le_of_ble_eq_true rfl) dX2_cableDirection_36 (fun r_5 hr_5 => ?_)
    subst hr_5
    refine lv_iload_n hx hb dX2_cableDirection_39 rfl (lv_at hl 1 rfl) ?_
    refine zv_iconst hx hb dX2_cableDirection_40 ?_
    refine zv_isub hx hb dX2_cableDirection_41 ?_
    refine zv_icmp_ne hx hb dX2_cableDirection_42 (tgt := 47) (by decide) ⟨by omega, by omega⟩ ⟨by omega, by omega⟩ (fun c_6 => ?_) (fun c_6 => ?_)
    · refine zv_iinc (k := 0) (lv' := [(3, .int (iI 1)), (2, .int (iI (L z))), (0, .ref tt), (1, .int (iI z))]) hx hb dX2_cableDirection_47 hl rfl (by decide) rfl (fun ls hl => ?_)
      refine lv_goto (tgt := 18) hx hb dX2_cableDirection_50 (by decide) ?_
      refine lv_iload_n hx hb dX2_cableDirection_18 rfl (lv_at hl 0 rfl) ?_
      refine zv_iconst hx hb dX2_cableDirection_19 ?_
      refine zv_icmp_ge hx hb dX2_cableDirection_20 (tgt := 53) (by decide) ⟨by omega, by omega⟩ ⟨by omega, by omega⟩ (fun c_7 => by exfalso; omega) (fun c_7 => ?_)
      refine lv_aload_n hx hb dX2_cableDirection_23 rfl (lv_at hl 2 rfl) ?_
      refine va_get (D := D) (ci := 2) (v := .ref s1) (C := RX2) (T := TX2) (N := 7) hx hb hts uX2 hown hK.1 hP 0 rfl rfl 2 (by decide) (hts _ q_159) (fun _ h9 => h9) rfl dX2_cableDirection_24 ?_
      refine lv_aload_n hx hb dX2_cableDirection_27 rfl (lv_at hl 2 rfl) ?_
      refine va_get (D := D) (ci := 2) (v := .ref fl) (C := RX2) (T := TX2) (N := 7) hx hb hts uX2 hown hK.1 hP 0 rfl rfl 0 (by decide) (hts _ q_157) (fun _ h9 => h9) rfl dX2_cableDirection_28 ?_
      refine lv_iload_n hx hb dX2_cableDirection_31 rfl (lv_at hl 3 rfl) ?_
      refine lv_iload_n hx hb dX2_cableDirection_32 rfl (lv_at hl 0 rfl) ?_
      refine zc_V (As := [.int (iI z), .int (iI 1)]) (rest := [.ref s1]) (ws := [(tt, .inr (2, [.ref fl, .int (iI lim), .ref s1, .ref s2, .int (iI bs), .int (iI P), .int (iI sm)])), (fl, .inr (0, [.int (iI C), .int (iI R), .ref pn, .int (iI np)])), (pn, .inl (cI, 49, .inl (aI gn))), (s1, .inr (1, [.ref d1, .ref r1, .int (iI c1)])), (d1, .inl (cI, 16807, .inl (aI g1)))]) (n := 2) hx hb (hml.trans hl.1.symm) hts hown hK hP (c_X0_after l D cI cJ fl pn C R np gn N z 1 hF (by omega) (by omega) (by omega) (by omega) (by omega)) (gd_V q_97 q_98 q_99 q_3 q_100) (by decide +kernel) rfl ⟨Nat.le_of_ble_eq_true rfl, Nat.le_of_ble_eq_true rfl⟩ ⟨Nat.zero_le _, Nat.zero_le _⟩ [1, 2] rfl 1 (ci := 0) rfl rfl rfl rfl (Nat.le_of_ble_eq_true rfl) dX2_cableDirection_33 (fun r_8 hr_8 => ?_)
      subst hr_8
      refine zc_V (As := [.int (iI (aftZ C R N z 1))]) (rest := []) (ws := [(tt, .inr (2, [.ref fl, .int (iI lim), .ref s1, .ref s2, .int (iI bs), .int (iI P), .int (iI sm)])), (fl, .inr (0, [.int (iI C), .int (iI R), .ref pn, .int (iI np)])), (pn, .inl (cI, 49, .inl (aI gn))), (s1, .inr (1, [.ref d1, .ref r1, .int (iI c1)])), (d1, .inl (cI, 16807, .inl (aI g1)))]) (n := 1) hx hb (hml.trans hl.1.symm) hts hown hK hP (c_X1_distanceOf l D cI cJ s1 d1 r1 c1 g1 L (aftZ C R N z 1) hL (by omega) (by omega)) (gd_V q_202 q_154 q_155 q_2 q_156) (by decide +kernel) rfl ⟨Nat.le_of_ble_eq_true rfl, Nat.le_of_ble_eq_true rfl⟩ ⟨Nat.zero_le _, Nat.zero_le _⟩ [3, 4] rfl 3 (ci := 1) rfl rfl rfl rfl (Nat.le_of_ble_eq_true rfl) dX2_cableDirection_36 (fun r_9 hr_9 => ?_)
      subst hr_9
      refine lv_iload_n hx hb dX2_cableDirection_39 rfl (lv_at hl 1 rfl) ?_
      refine zv_iconst hx hb dX2_cableDirection_40 ?_
      refine zv_isub hx hb dX2_cableDirection_41 ?_
      refine zv_icmp_ne hx hb dX2_cableDirection_42 (tgt := 47) (by decide) ⟨by omega, by omega⟩ ⟨by omega, by omega⟩ (fun c_10 => ?_) (fun c_10 => ?_)
      · refine zv_iinc (k := 0) (lv' := [(3, .int (iI 2)), (2, .int (iI (L z))), (0, .ref tt), (1, .int (iI z))]) hx hb dX2_cableDirection_47 hl rfl (by decide) rfl (fun ls hl => ?_)
        refine lv_goto (tgt := 18) hx hb dX2_cableDirection_50 (by decide) ?_
        refine lv_iload_n hx hb dX2_cableDirection_18 rfl (lv_at hl 0 rfl) ?_
        refine zv_iconst hx hb dX2_cableDirection_19 ?_
        refine zv_icmp_ge hx hb dX2_cableDirection_20 (tgt := 53) (by decide) ⟨by omega, by omega⟩ ⟨by omega, by omega⟩ (fun c_11 => by exfalso; omega) (fun c_11 => ?_)
        refine lv_aload_n hx hb dX2_cableDirection_23 rfl (lv_at hl 2 rfl) ?_
        refine va_get (D := D) (ci := 2) (v := .ref s1) (C := RX2) (T := TX2) (N := 7) hx hb hts uX2 hown hK.1 hP 0 rfl rfl 2 (by decide) (hts _ q_159) (fun _ h9 => h9) rfl dX2_cableDirection_24 ?_
        refine lv_aload_n hx hb dX2_cableDirection_27 rfl (lv_at hl 2 rfl) ?_
        refine va_get (D := D) (ci := 2) (v := .ref fl) (C := RX2) (T := TX2) (N := 7) hx hb hts uX2 hown hK.1 hP 0 rfl rfl 0 (by decide) (hts _ q_157) (fun _ h9 => h9) rfl dX2_cableDirection_28 ?_
        refine lv_iload_n hx hb dX2_cableDirection_31 rfl (lv_at hl 3 rfl) ?_
        refine lv_iload_n hx hb dX2_cableDirection_32 rfl (lv_at hl 0 rfl) ?_
        refine zc_V (As := [.int (iI z), .int (iI 2)]) (rest := [.ref s1]) (ws := [(tt, .inr (2, [.ref fl, .int (iI lim), .ref s1, .ref s2, .int (iI bs), .int (iI P), .int (iI sm)])), (fl, .inr (0, [.int (iI C), .int (iI R), .ref pn, .int (iI np)])), (pn, .inl (cI, 49, .inl (aI gn))), (s1, .inr (1, [.ref d1, .ref r1, .int (iI c1)])), (d1, .inl (cI, 16807, .inl (aI g1)))]) (n := 2) hx hb (hml.trans hl.1.symm) hts hown hK hP (c_X0_after l D cI cJ fl pn C R np gn N z 2 hF (by omega) (by omega) (by omega) (by omega) (by omega)) (gd_V q_97 q_98 q_99 q_3 q_100) (by decide +kernel) rfl ⟨Nat.le_of_ble_eq_true rfl, Nat.le_of_ble_eq_true rfl⟩ ⟨Nat.zero_le _, Nat.zero_le _⟩ [1, 2] rfl 1 (ci := 0) rfl rfl rfl rfl (Nat.le_of_ble_eq_true rfl) dX2_cableDirection_33 (fun r_12 hr_12 => ?_)
        subst hr_12
        refine zc_V (As := [.int (iI (aftZ C R N z 2))]) (rest := []) (ws := [(tt, .inr (2, [.ref fl, .int (iI lim), .ref s1, .ref s2, .int (iI bs), .int (iI P), .int (iI sm)])), (fl, .inr (0, [.int (iI C), .int (iI R), .ref pn, .int (iI np)])), (pn, .inl (cI, 49, .inl (aI gn))), (s1, .inr (1, [.ref d1, .ref r1, .int (iI c1)])), (d1, .inl (cI, 16807, .inl (aI g1)))]) (n := 1) hx hb (hml.trans hl.1.symm) hts hown hK hP (c_X1_distanceOf l D cI cJ s1 d1 r1 c1 g1 L (aftZ C R N z 2) hL (by omega) (by omega)) (gd_V q_202 q_154 q_155 q_2 q_156) (by decide +kernel) rfl ⟨Nat.le_of_ble_eq_true rfl, Nat.le_of_ble_eq_true rfl⟩ ⟨Nat.zero_le _, Nat.zero_le _⟩ [3, 4] rfl 3 (ci := 1) rfl rfl rfl rfl (Nat.le_of_ble_eq_true rfl) dX2_cableDirection_36 (fun r_13 hr_13 => ?_)
        subst hr_13
        refine lv_iload_n hx hb dX2_cableDirection_39 rfl (lv_at hl 1 rfl) ?_
        refine zv_iconst hx hb dX2_cableDirection_40 ?_
        refine zv_isub hx hb dX2_cableDirection_41 ?_
        refine zv_icmp_ne hx hb dX2_cableDirection_42 (tgt := 47) (by decide) ⟨by omega, by omega⟩ ⟨by omega, by omega⟩ (fun c_14 => ?_) (fun c_14 => ?_)
        · refine zv_iinc (k := 0) (lv' := [(3, .int (iI 3)), (2, .int (iI (L z))), (0, .ref tt), (1, .int (iI z))]) hx hb dX2_cableDirection_47 hl rfl (by decide) rfl (fun ls hl => ?_)
          refine lv_goto (tgt := 18) hx hb dX2_cableDirection_50 (by decide) ?_
          refine lv_iload_n hx hb dX2_cableDirection_18 rfl (lv_at hl 0 rfl) ?_
          refine zv_iconst hx hb dX2_cableDirection_19 ?_
          refine zv_icmp_ge hx hb dX2_cableDirection_20 (tgt := 53) (by decide) ⟨by omega, by omega⟩ ⟨by omega, by omega⟩ (fun c_15 => by exfalso; omega) (fun c_15 => ?_)
          refine lv_aload_n hx hb dX2_cableDirection_23 rfl (lv_at hl 2 rfl) ?_
          refine va_get (D := D) (ci := 2) (v := .ref s1) (C := RX2) (T := TX2) (N := 7) hx hb hts uX2 hown hK.1 hP 0 rfl rfl 2 (by decide) (hts _ q_159) (fun _ h9 => h9) rfl dX2_cableDirection_24 ?_
          refine lv_aload_n hx hb dX2_cableDirection_27 rfl (lv_at hl 2 rfl) ?_
          refine va_get (D := D) (ci := 2) (v := .ref fl) (C := RX2) (T := TX2) (N := 7) hx hb hts uX2 hown hK.1 hP 0 rfl rfl 0 (by decide) (hts _ q_157) (fun _ h9 => h9) rfl dX2_cableDirection_28 ?_
          refine lv_iload_n hx hb dX2_cableDirection_31 rfl (lv_at hl 3 rfl) ?_
          refine lv_iload_n hx hb dX2_cableDirection_32 rfl (lv_at hl 0 rfl) ?_
          refine zc_V (As := [.int (iI z), .int (iI 3)]) (rest := [.ref s1]) (ws := [(tt, .inr (2, [.ref fl, .int (iI lim), .ref s1, .ref s2, .int (iI bs), .int (iI P), .int (iI sm)])), (fl, .inr (0, [.int (iI C), .int (iI R), .ref pn, .int (iI np)])), (pn, .inl (cI, 49, .inl (aI gn))), (s1, .inr (1, [.ref d1, .ref r1, .int (iI c1)])), (d1, .inl (cI, 16807, .inl (aI g1)))]) (n := 2) hx hb (hml.trans hl.1.symm) hts hown hK hP (c_X0_after l D cI cJ fl pn C R np gn N z 3 hF (by omega) (by omega) (by omega) (by omega) (by omega)) (gd_V q_97 q_98 q_99 q_3 q_100) (by decide +kernel) rfl ⟨Nat.le_of_ble_eq_true rfl, Nat.le_of_ble_eq_true rfl⟩ ⟨Nat.zero_le _, Nat.zero_le _⟩ [1, 2] rfl 1 (ci := 0) rfl rfl rfl rfl (Nat.le_of_ble_eq_true rfl) dX2_cableDirection_33 (fun r_16 hr_16 => ?_)
          subst hr_16
          refine zc_V (As := [.int (iI (aftZ C R N z 3))]) (rest := []) (ws := [(tt, .inr (2, [.ref fl, .int (iI lim), .ref s1, .ref s2, .int (iI bs), .int (iI P), .int (iI sm)])), (fl, .inr (0, [.int (iI C), .int (iI R), .ref pn, .int (iI np)])), (pn, .inl (cI, 49, .inl (aI gn))), (s1, .inr (1, [.ref d1, .ref r1, .int (iI c1)])), (d1, .inl (cI, 16807, .inl (aI g1)))]) (n := 1) hx hb (hml.trans hl.1.symm) hts hown hK hP (c_X1_distanceOf l D cI cJ s1 d1 r1 c1 g1 L (aftZ C R N z 3) hL (by omega) (by omega)) (gd_V q_202 q_154 q_155 q_2 q_156) (by decide +kernel) rfl ⟨Nat.le_of_ble_eq_true rfl, Nat.le_of_ble_eq_true rfl⟩ ⟨Nat.zero_le _, Nat.zero_le _⟩ [3, 4] rfl 3 (ci := 1) rfl rfl rfl rfl (Nat.le_of_ble_eq_true rfl) dX2_cableDirection_36 (fun r_17 hr_17 => ?_)
          subst hr_17
          refine lv_iload_n hx hb dX2_cableDirection_39 rfl (lv_at hl 1 rfl) ?_
          refine zv_iconst hx hb dX2_cableDirection_40 ?_
          refine zv_isub hx hb dX2_cableDirection_41 ?_
          refine zv_icmp_ne hx hb dX2_cableDirection_42 (tgt := 47) (by decide) ⟨by omega, by omega⟩ ⟨by omega, by omega⟩ (fun c_18 => ?_) (fun c_18 => ?_)
          · refine zv_iinc (k := 0) (lv' := [(3, .int (iI 4)), (2, .int (iI (L z))), (0, .ref tt), (1, .int (iI z))]) hx hb dX2_cableDirection_47 hl rfl (by decide) rfl (fun ls hl => ?_)
            refine lv_goto (tgt := 18) hx hb dX2_cableDirection_50 (by decide) ?_
            refine lv_iload_n hx hb dX2_cableDirection_18 rfl (lv_at hl 0 rfl) ?_
            refine zv_iconst hx hb dX2_cableDirection_19 ?_
            refine zv_icmp_ge hx hb dX2_cableDirection_20 (tgt := 53) (by decide) ⟨by omega, by omega⟩ ⟨by omega, by omega⟩ (fun c_19 => ?_) (fun c_19 => by exfalso; omega)
            refine zv_iconst hx hb dX2_cableDirection_53 ?_
            exact PM_iret hx hb hr hlk dX2_cableDirection_54 (by unfold cdZ; first | rw [if_pos (by omega)] | rw [if_neg (by omega), if_pos (by omega)] | rw [if_neg (by omega), if_neg (by omega), if_pos (by omega)] | rw [if_neg (by omega), if_neg (by omega), if_neg (by omega), if_pos (by omega)] | rw [if_neg (by omega), if_neg (by omega), if_neg (by omega), if_neg (by omega), if_pos (by omega)] | rw [if_neg (by omega), if_neg (by omega), if_neg (by omega), if_neg (by omega), if_neg (by omega)])
          · refine lv_iload_n hx hb dX2_cableDirection_45 rfl (lv_at hl 0 rfl) ?_
            exact PM_iret hx hb hr hlk dX2_cableDirection_46 (by unfold cdZ; first | rw [if_pos (by omega)] | rw [if_neg (by omega), if_pos (by omega)] | rw [if_neg (by omega), if_neg (by omega), if_pos (by omega)] | rw [if_neg (by omega), if_neg (by omega), if_neg (by omega), if_pos (by omega)] | rw [if_neg (by omega), if_neg (by omega), if_neg (by omega), if_neg (by omega), if_pos (by omega)] | rw [if_neg (by omega), if_neg (by omega), if_neg (by omega), if_neg (by omega), if_neg (by omega)])
        · refine lv_iload_n hx hb dX2_cableDirection_45 rfl (lv_at hl 0 rfl) ?_
          exact PM_iret hx hb hr hlk dX2_cableDirection_46 (by unfold cdZ; first | rw [if_pos (by omega)] | rw [if_neg (by omega), if_pos (by omega)] | rw [if_neg (by omega), if_neg (by omega), if_pos (by omega)] | rw [if_neg (by omega), if_neg (by omega), if_neg (by omega), if_pos (by omega)] | rw [if_neg (by omega), if_neg (by omega), if_neg (by omega), if_neg (by omega), if_pos (by omega)] | rw [if_neg (by omega), if_neg (by omega), if_neg (by omega), if_neg (by omega), if_neg (by omega)])
      · refine lv_iload_n hx hb dX2_cableDirection_45 rfl (lv_at hl 0 rfl) ?_
        exact PM_iret hx hb hr hlk dX2_cableDirection_46 (by unfold cdZ; first | rw [if_pos (by omega)] | rw [if_neg (by omega), if_pos (by omega)] | rw [if_neg (by omega), if_neg (by omega), if_pos (by omega)] | rw [if_neg (by omega), if_neg (by omega), if_neg (by omega), if_pos (by omega)] | rw [if_neg (by omega), if_neg (by omega), if_neg (by omega), if_neg (by omega), if_pos (by omega)] | rw [if_neg (by omega), if_neg (by omega), if_neg (by omega), if_neg (by omega), if_neg (by omega)])
    · refine lv_iload_n hx hb dX2_cableDirection_45 rfl (lv_at hl 0 rfl) ?_
      exact PM_iret hx hb hr hlk dX2_cableDirection_46 (by unfold cdZ; first | rw [if_pos (by omega)] | rw [if_neg (by omega), if_pos (by omega)] | rw [if_neg (by omega), if_neg (by omega), if_pos (by omega)] | rw [if_neg (by omega), if_neg (by omega), if_neg (by omega), if_pos (by omega)] | rw [if_neg (by omega), if_neg (by omega), if_neg (by omega), if_neg (by omega), if_pos (by omega)] | rw [if_neg (by omega), if_neg (by omega), if_neg (by omega), if_neg (by omega), if_neg (by omega)])
  · refine zv_iconst hx hb dX2_cableDirection_14 ?_
    exact PM_iret hx hb hr hlk dX2_cableDirection_15 (by unfold cdZ; first | rw [if_pos (by omega)] | rw [if_neg (by omega), if_pos (by omega)] | rw [if_neg (by omega), if_neg (by omega), if_pos (by omega)] | rw [if_neg (by omega), if_neg (by omega), if_neg (by omega), if_pos (by omega)] | rw [if_neg (by omega), if_neg (by omega), if_neg (by omega), if_neg (by omega), if_pos (by omega)] | rw [if_neg (by omega), if_neg (by omega), if_neg (by omega), if_neg (by omega), if_neg (by omega)])
set_option maxRecDepth 100000 in
set_option maxHeartbeats 4000000 in
theorem c_X2_alongCable (l : Launch) (D : va_G) (cI cJ : ClassId) (tt fl s1 s2 pn d1 r1 : Nat) (lim bs P sm C R np c1 : Int) (gn g1 : Nat → Int) (N L : Int → Int) (k : Int) (hF : FlOK C R np N gn) (hL : LenOK L g1) (hlm : 1 ≤ lim ∧ lim ≤ 60) (hA : AlOK C R N L P k) (hk0 : 0 ≤ k) (hk1 : k ≤ 20000) : PM l yX2_alongCable (.code yX2_alongCable cX2_alongCable 4 (some .int)) 6 [.ref tt, .int (iI k)] D cI cJ [(tt, .inr (2, [.ref fl, .int (iI lim), .ref s1, .ref s2, .int (iI bs), .int (iI P), .int (iI sm)])), (fl, .inr (0, [.int (iI C), .int (iI R), .ref pn, .int (iI np)])), (pn, .inl (cI, 49, .inl (aI gn))), (s1, .inr (1, [.ref d1, .ref r1, .int (iI c1)])), (d1, .inl (cI, 16807, .inl (aI g1)))] (fun r => r = alZ C R N L P k.toNat) := by
  obtain ⟨hC1, hC2, hR1, hR2, hp1, hp2, -, -⟩ := id hF
  refine PM_of (by decide) rfl (Nat.le_of_ble_eq_true rfl) (fun p e s m below meth c ls hx hb hr hts hown hlk hml hK hP hl => ?_)
  have hl : lv_has ls 4 [(0, .ref tt), (1, .int (iI k))] := hl
  refine lv_aload_n hx hb dX2_alongCable_0 rfl (lv_at hl 0 rfl) ?_
  refine va_get (D := D) (ci := 2) (v := .int (iI P)) (C := RX2) (T := TX2) (N := 7) hx hb hts uX2 hown hK.1 hP 0 rfl rfl 5 (by decide) (hts _ q_162) (fun _ h9 => h9) rfl dX2_alongCable_1 ?_
  refine lv_istore_n (lv' := [(2, .int (iI P)), (0, .ref tt), (1, .int (iI k))]) hx hb dX2_alongCable_4 rfl hl (by decide) rfl (fun ls hl => ?_)
  refine zv_iconst hx hb dX2_alongCable_5 ?_
  refine lv_istore_n (lv' := [(3, .int (iI 0)), (2, .int (iI P)), (0, .ref tt), (1, .int (iI k))]) hx hb dX2_alongCable_6 rfl hl (by decide) rfl (fun ls hl => ?_)
  have loop7 : ∀ (n : Nat) (y i : Int) (j : Nat), (i = (j : Int)) → (i ≤ k) → (y = alZ C R N L P j) → (k - i < (n : Int)) → ∀ ls : Array Slot, lv_has ls 4 [(0, .ref tt), (1, .int (iI k)), (2, .int (iI y)), (3, .int (iI i))] → W p l e (lvl 6) s m [.ref tt, .int (iI k)].toArray below meth c s.heap [] 0 0 (MQ below (PQ (fun r => r = alZ C R N L P k.toNat)) [.ref tt, .int (iI k)].toArray s 0 0 (fun _ => False)) (F0 m 7 ls []) := by
    intro n
    induction n with
    | zero => intro y i j hi hik hy hms; exfalso; omega
    | succ n ih =>
      intro y i j hi hik hy hms ls hl
      refine lv_iload_n hx hb dX2_alongCable_7 rfl (lv_at hl 3 rfl) ?_
      refine lv_iload_n hx hb dX2_alongCable_8 rfl (lv_at hl 1 rfl) ?_
      refine zv_icmp_ge hx hb dX2_alongCable_9 (tgt := 32) (by decide) ⟨by omega, by omega⟩ ⟨by omega, by omega⟩ (fun c_1 => ?_) (fun c_1 => ?_)
      · refine lv_iload_n hx hb dX2_alongCable_32 rfl (lv_at hl 2 rfl) ?_
        exact PM_iret hx hb hr hlk dX2_alongCable_33 (by rw [hy, show k.toNat = j by omega])
      · refine lv_aload_n hx hb dX2_alongCable_12 rfl (lv_at hl 0 rfl) ?_
        refine va_get (D := D) (ci := 2) (v := .ref fl) (C := RX2) (T := TX2) (N := 7) hx hb hts uX2 hown hK.1 hP 0 rfl rfl 0 (by decide) (hts _ q_157) (fun _ h9 => h9) rfl dX2_alongCable_13 ?_
        refine lv_iload_n hx hb dX2_alongCable_16 rfl (lv_at hl 2 rfl) ?_
        obtain ⟨hA1, hA2, hA3⟩ := hA j (by omega)
        rw [← hy] at hA1 hA2 hA3
        obtain ⟨hy0, hy1, hy2⟩ := hA1
        refine lv_aload_n hx hb dX2_alongCable_17 rfl (lv_at hl 0 rfl) ?_
        refine lv_iload_n hx hb dX2_alongCable_18 rfl (lv_at hl 2 rfl) ?_
        refine zc_V (As := [.int (iI y)]) (rest := [.int (iI y), .ref fl]) (ws := [(tt, .inr (2, [.ref fl, .int (iI lim), .ref s1, .ref s2, .int (iI bs), .int (iI P), .int (iI sm)])), (fl, .inr (0, [.int (iI C), .int (iI R), .ref pn, .int (iI np)])), (pn, .inl (cI, 49, .inl (aI gn))), (s1, .inr (1, [.ref d1, .ref r1, .int (iI c1)])), (d1, .inl (cI, 16807, .inl (aI g1)))]) (n := 1) hx hb (hml.trans hl.1.symm) hts hown hK hP (c_X2_cableDirection l D cI cJ tt fl s1 s2 pn d1 r1 lim bs P sm C R np c1 gn g1 N L y hF hL hlm (by omega) (by omega) (by omega)) (gd_V q_216 q_218 q_1006 q_1 q_219) (by decide +kernel) rfl ⟨Nat.le_of_ble_eq_true rfl, Nat.le_of_ble_eq_true rfl⟩ ⟨Nat.zero_le _, Nat.zero_le _⟩ [0, 1, 2, 3, 4] rfl 0 (ci := 2) rfl rfl rfl rfl (Nat.le_of_ble_eq_true rfl) dX2_alongCable_19 (fun r_2 hr_2 => ?_)
        subst hr_2
        refine zc_V (As := [.int (iI y), .int (iI (cdZ C R N L y))]) (rest := []) (ws := [(tt, .inr (2, [.ref fl, .int (iI lim), .ref s1, .ref s2, .int (iI bs), .int (iI P), .int (iI sm)])), (fl, .inr (0, [.int (iI C), .int (iI R), .ref pn, .int (iI np)])), (pn, .inl (cI, 49, .inl (aI gn))), (s1, .inr (1, [.ref d1, .ref r1, .int (iI c1)])), (d1, .inl (cI, 16807, .inl (aI g1)))]) (n := 2) hx hb (hml.trans hl.1.symm) hts hown hK hP (c_X0_after l D cI cJ fl pn C R np gn N y (cdZ C R N L y) hF (by omega) (by omega) (by omega) (by omega) (by omega)) (gd_V q_97 q_98 q_99 q_3 q_100) (by decide +kernel) rfl ⟨Nat.le_of_ble_eq_true rfl, Nat.le_of_ble_eq_true rfl⟩ ⟨Nat.zero_le _, Nat.zero_le _⟩ [1, 2] rfl 1 (ci := 0) rfl rfl rfl rfl (Nat.le_of_ble_eq_true rfl) dX2_alongCable_22 (fun r_3 hr_3 => ?_)
        subst hr_3
        refine lv_istore_n (lv' := [(2, .int (iI (aftZ C R N y (cdZ C R N L y)))), (0, .ref tt), (1, .int (iI k)), (3, .int (iI i))]) hx hb dX2_alongCable_25 rfl hl (by decide) rfl (fun ls hl => ?_)
        refine zv_iinc (k := 3) (lv' := [(3, .int (iI (i + 1))), (2, .int (iI (aftZ C R N y (cdZ C R N L y)))), (0, .ref tt), (1, .int (iI k))]) hx hb dX2_alongCable_26 hl rfl (by decide) rfl (fun ls hl => ?_)
        refine lv_goto (tgt := 7) hx hb dX2_alongCable_29 (by decide) ?_
        exact ih (aftZ C R N y (cdZ C R N L y)) (i + 1) (j + 1) (by omega) (by omega) (by rw [hy]; rfl) (by omega) ls (lv_sub hl [2, 3, 1, 0] rfl)
  exact loop7 (k.toNat + 1) P 0 0 rfl (by omega) rfl (by omega) ls (lv_sub hl [2, 3, 1, 0] rfl)
set_option maxRecDepth 100000 in
set_option maxHeartbeats 4000000 in
theorem c_X2_leastLengthOf (l : Launch) (D : va_G) (cI cJ : ClassId) (tt fl s1 s2 pn d1 r1 : Nat) (lim bs P sm C R np c1 : Int) (gn g1 : Nat → Int) (N L : Int → Int) (q : Int) (hF : FlOK C R np N gn) (hL : LenOK L g1) (hlm : 1 ≤ lim ∧ lim ≤ 60) (hq0 : 0 ≤ q) (hq1 : q < 49) : PM l yX2_leastLengthOf (.code yX2_leastLengthOf cX2_leastLengthOf 5 (some .int)) 2 [.ref tt, .int (iI q)] D cI cJ [(tt, .inr (2, [.ref fl, .int (iI lim), .ref s1, .ref s2, .int (iI bs), .int (iI P), .int (iI sm)])), (fl, .inr (0, [.int (iI C), .int (iI R), .ref pn, .int (iI np)])), (pn, .inl (cI, 49, .inl (aI gn))), (s1, .inr (1, [.ref d1, .ref r1, .int (iI c1)])), (d1, .inl (cI, 16807, .inl (aI g1)))] (fun r => r = lsZ L q) := by
  obtain ⟨hC1, hC2, hR1, hR2, hp1, hp2, -, -⟩ := id hF
  refine PM_of (by decide) rfl (Nat.le_of_ble_eq_true rfl) (fun p e s m below meth c ls hx hb hr hts hown hlk hml hK hP hl => ?_)
  have hl : lv_has ls 5 [(0, .ref tt), (1, .int (iI q))] := hl
  refine zv_iconst hx hb dX2_leastLengthOf_0 ?_
  refine lv_istore_n (lv' := [(2, .int (iI (-1))), (0, .ref tt), (1, .int (iI q))]) hx hb dX2_leastLengthOf_1 rfl hl (by decide) rfl (fun ls hl => ?_)
  refine zv_iconst hx hb dX2_leastLengthOf_2 ?_
  refine lv_istore_n (lv' := [(3, .int (iI 0)), (2, .int (iI (-1))), (0, .ref tt), (1, .int (iI q))]) hx hb dX2_leastLengthOf_3 rfl hl (by decide) rfl (fun ls hl => ?_)
  have loop4 : ∀ (n : Nat) (y i : Int) (j : Nat), (i = (j : Int)) → (i ≤ 343) → (y = lsN L q j) → (343 - i < (n : Int)) → ∀ ls : Array Slot, lv_has ls 5 [(0, .ref tt), (1, .int (iI q)), (2, .int (iI y)), (3, .int (iI i))] → W p l e (lvl 2) s m [.ref tt, .int (iI q)].toArray below meth c s.heap [] 0 0 (MQ below (PQ (fun r => r = lsZ L q)) [.ref tt, .int (iI q)].toArray s 0 0 (fun _ => False)) (F0 m 4 ls []) := by
    intro n
    induction n with
    | zero => intro y i j hi hik hy hms; exfalso; omega
    | succ n ih =>
      intro y i j hi hik hy hms ls hl
      have hyb := lsN_b hL q j
      rw [← hy] at hyb
      have hLb := hL.b (q * 343 + i)
      refine lv_iload_n hx hb dX2_leastLengthOf_4 rfl (lv_at hl 3 rfl) ?_
      refine zv_sipush hx hb dX2_leastLengthOf_5 (by decide) ?_
      refine zv_icmp_ge hx hb dX2_leastLengthOf_8 (tgt := 51) (by decide) ⟨by omega, by omega⟩ ⟨by omega, by omega⟩ (fun c_1 => ?_) (fun c_1 => ?_)
      · refine lv_iload_n hx hb dX2_leastLengthOf_51 rfl (lv_at hl 2 rfl) ?_
        exact PM_iret hx hb hr hlk dX2_leastLengthOf_52 (by rw [hy, show j = 343 by omega]; rfl)
      · refine lv_aload_n hx hb dX2_leastLengthOf_11 rfl (lv_at hl 0 rfl) ?_
        refine va_get (D := D) (ci := 2) (v := .ref s1) (C := RX2) (T := TX2) (N := 7) hx hb hts uX2 hown hK.1 hP 0 rfl rfl 2 (by decide) (hts _ q_159) (fun _ h9 => h9) rfl dX2_leastLengthOf_12 ?_
        refine lv_iload_n hx hb dX2_leastLengthOf_15 rfl (lv_at hl 1 rfl) ?_
        refine lv_iload_n hx hb dX2_leastLengthOf_16 rfl (lv_at hl 3 rfl) ?_
        refine zc_S (As := [.int (iI q), .int (iI i)]) (rest := [.ref s1]) (ws := [(tt, .inr (2, [.ref fl, .int (iI lim), .ref s1, .ref s2, .int (iI bs), .int (iI P), .int (iI sm)])), (fl, .inr (0, [.int (iI C), .int (iI R), .ref pn, .int (iI np)])), (pn, .inl (cI, 49, .inl (aI gn))), (s1, .inr (1, [.ref d1, .ref r1, .int (iI c1)])), (d1, .inl (cI, 16807, .inl (aI g1)))]) (n := 2) hx hb (hml.trans hl.1.symm) hts hown hK hP (c_X2_placeOf l D cI cJ q i) (gd_S q_73 q_74 q_1 q_75) (by decide +kernel) rfl ⟨Nat.le_of_ble_eq_true rfl, Nat.le_of_ble_eq_true rfl⟩ ⟨Nat.zero_le _, Nat.zero_le _⟩ [] rfl rfl (Nat.le_of_ble_eq_true rfl) dX2_leastLengthOf_17 (fun r_2 hr_2 => ?_)
        subst hr_2
        refine zc_V (As := [.int (iI (q * 343 + i))]) (rest := []) (ws := [(tt, .inr (2, [.ref fl, .int (iI lim), .ref s1, .ref s2, .int (iI bs), .int (iI P), .int (iI sm)])), (fl, .inr (0, [.int (iI C), .int (iI R), .ref pn, .int (iI np)])), (pn, .inl (cI, 49, .inl (aI gn))), (s1, .inr (1, [.ref d1, .ref r1, .int (iI c1)])), (d1, .inl (cI, 16807, .inl (aI g1)))]) (n := 1) hx hb (hml.trans hl.1.symm) hts hown hK hP (c_X1_distanceOf l D cI cJ s1 d1 r1 c1 g1 L (q * 343 + i) hL (by omega) (by omega)) (gd_V q_202 q_154 q_155 q_2 q_156) (by decide +kernel) rfl ⟨Nat.le_of_ble_eq_true rfl, Nat.le_of_ble_eq_true rfl⟩ ⟨Nat.zero_le _, Nat.zero_le _⟩ [3, 4] rfl 3 (ci := 1) rfl rfl rfl rfl (Nat.le_of_ble_eq_true rfl) dX2_leastLengthOf_20 (fun r_3 hr_3 => ?_)
        subst hr_3
        refine lv_istore (lv' := [(4, .int (iI (L (q * 343 + i)))), (0, .ref tt), (1, .int (iI q)), (2, .int (iI y)), (3, .int (iI i))]) hx hb dX2_leastLengthOf_23 hl (by decide) rfl (fun ls hl => ?_)
        refine lv_iload hx hb dX2_leastLengthOf_25 (lv_at hl 0 rfl) ?_
        refine zv_iconst hx hb dX2_leastLengthOf_27 ?_
        refine zv_icmp_eq hx hb dX2_leastLengthOf_28 (tgt := 45) (by decide) ⟨by omega, by omega⟩ ⟨by omega, by omega⟩ (fun c_4 => ?_) (fun c_4 => ?_)
        · refine zv_iinc (k := 4) (lv' := [(3, .int (iI (i + 1))), (4, .int (iI (L (q * 343 + i)))), (0, .ref tt), (1, .int (iI q)), (2, .int (iI y))]) hx hb dX2_leastLengthOf_45 hl rfl (by decide) rfl (fun ls hl => ?_)
          refine lv_goto (tgt := 4) hx hb dX2_leastLengthOf_48 (by decide) ?_
          exact ih y (i + 1) (j + 1) (by omega) (by omega) (by unfold lsN; rw [← hi, ← hy]; first | rw [if_pos (by omega)] | rw [if_neg (by omega)]) (by omega) ls (lv_sub hl [2, 3, 4, 0] rfl)
        · refine lv_iload_n hx hb dX2_leastLengthOf_31 rfl (lv_at hl 3 rfl) ?_
          refine zv_iconst hx hb dX2_leastLengthOf_32 ?_
          refine zv_icmp_eq hx hb dX2_leastLengthOf_33 (tgt := 42) (by decide) ⟨by omega, by omega⟩ ⟨by omega, by omega⟩ (fun c_5 => ?_) (fun c_5 => ?_)
          · refine lv_iload hx hb dX2_leastLengthOf_42 (lv_at hl 0 rfl) ?_
            refine lv_istore_n (lv' := [(2, .int (iI (L (q * 343 + i)))), (4, .int (iI (L (q * 343 + i)))), (0, .ref tt), (1, .int (iI q)), (3, .int (iI i))]) hx hb dX2_leastLengthOf_44 rfl hl (by decide) rfl (fun ls hl => ?_)
            refine zv_iinc (k := 4) (lv' := [(3, .int (iI (i + 1))), (2, .int (iI (L (q * 343 + i)))), (4, .int (iI (L (q * 343 + i)))), (0, .ref tt), (1, .int (iI q))]) hx hb dX2_leastLengthOf_45 hl rfl (by decide) rfl (fun ls hl => ?_)
            refine lv_goto (tgt := 4) hx hb dX2_leastLengthOf_48 (by decide) ?_
            exact ih (L (q * 343 + i)) (i + 1) (j + 1) (by omega) (by omega) (by unfold lsN; rw [← hi, ← hy]; first | rw [if_pos (by omega)] | rw [if_neg (by omega)]) (by omega) ls (lv_sub hl [3, 4, 1, 0] rfl)
          · refine lv_iload hx hb dX2_leastLengthOf_36 (lv_at hl 0 rfl) ?_
            refine lv_iload_n hx hb dX2_leastLengthOf_38 rfl (lv_at hl 3 rfl) ?_
            refine zv_icmp_ge hx hb dX2_leastLengthOf_39 (tgt := 45) (by decide) ⟨by omega, by omega⟩ ⟨by omega, by omega⟩ (fun c_6 => ?_) (fun c_6 => ?_)
            · refine zv_iinc (k := 4) (lv' := [(3, .int (iI (i + 1))), (4, .int (iI (L (q * 343 + i)))), (0, .ref tt), (1, .int (iI q)), (2, .int (iI y))]) hx hb dX2_leastLengthOf_45 hl rfl (by decide) rfl (fun ls hl => ?_)
              refine lv_goto (tgt := 4) hx hb dX2_leastLengthOf_48 (by decide) ?_
              exact ih y (i + 1) (j + 1) (by omega) (by omega) (by unfold lsN; rw [← hi, ← hy]; first | rw [if_pos (by omega)] | rw [if_neg (by omega)]) (by omega) ls (lv_sub hl [2, 3, 4, 0] rfl)
            · refine lv_iload hx hb dX2_leastLengthOf_42 (lv_at hl 0 rfl) ?_
              refine lv_istore_n (lv' := [(2, .int (iI (L (q * 343 + i)))), (4, .int (iI (L (q * 343 + i)))), (0, .ref tt), (1, .int (iI q)), (3, .int (iI i))]) hx hb dX2_leastLengthOf_44 rfl hl (by decide) rfl (fun ls hl => ?_)
              refine zv_iinc (k := 4) (lv' := [(3, .int (iI (i + 1))), (2, .int (iI (L (q * 343 + i)))), (4, .int (iI (L (q * 343 + i)))), (0, .ref tt), (1, .int (iI q))]) hx hb dX2_leastLengthOf_45 hl rfl (by decide) rfl (fun ls hl => ?_)
              refine lv_goto (tgt := 4) hx hb dX2_leastLengthOf_48 (by decide) ?_
              exact ih (L (q * 343 + i)) (i + 1) (j + 1) (by omega) (by omega) (by unfold lsN; rw [← hi, ← hy]; first | rw [if_pos (by omega)] | rw [if_neg (by omega)]) (by omega) ls (lv_sub hl [3, 4, 1, 0] rfl)
  exact loop4 344 (-1) 0 0 rfl (by omega) rfl (by omega) ls (lv_sub hl [2, 3, 1, 0] rfl)
set_option maxRecDepth 100000 in
set_option maxHeartbeats 4000000 in
theorem c_X2_length (l : Launch) (D : va_G) (cI cJ : ClassId) (tt fl s1 s2 pn d1 r1 : Nat) (lim bs P sm C R np c1 : Int) (gn g1 : Nat → Int) (N L : Int → Int) (hF : FlOK C R np N gn) (hL : LenOK L g1) (hlm : 1 ≤ lim ∧ lim ≤ 60) (hP0 : 0 ≤ P ∧ P < 16807) : PM l yX2_length (.code yX2_length cX2_length 1 (some .int)) 1 [.ref tt] D cI cJ [(tt, .inr (2, [.ref fl, .int (iI lim), .ref s1, .ref s2, .int (iI bs), .int (iI P), .int (iI sm)])), (fl, .inr (0, [.int (iI C), .int (iI R), .ref pn, .int (iI np)])), (pn, .inl (cI, 49, .inl (aI gn))), (s1, .inr (1, [.ref d1, .ref r1, .int (iI c1)])), (d1, .inl (cI, 16807, .inl (aI g1)))] (fun r => r = L P) := by
  obtain ⟨hC1, hC2, hR1, hR2, hp1, hp2, -, -⟩ := id hF
  obtain ⟨hP1, hP2⟩ := hP0
  refine PM_of (by decide) rfl (Nat.le_of_ble_eq_true rfl) (fun p e s m below meth c ls hx hb hr hts hown hlk hml hK hP hl => ?_)
  have hl : lv_has ls 1 [(0, .ref tt)] := hl
  refine lv_aload_n hx hb dX2_length_0 rfl (lv_at hl 0 rfl) ?_
  refine va_get (D := D) (ci := 2) (v := .ref s1) (C := RX2) (T := TX2) (N := 7) hx hb hts uX2 hown hK.1 hP 0 rfl rfl 2 (by decide) (hts _ q_159) (fun _ h9 => h9) rfl dX2_length_1 ?_
  refine lv_aload_n hx hb dX2_length_4 rfl (lv_at hl 0 rfl) ?_
  refine va_get (D := D) (ci := 2) (v := .int (iI P)) (C := RX2) (T := TX2) (N := 7) hx hb hts uX2 hown hK.1 hP 0 rfl rfl 5 (by decide) (hts _ q_162) (fun _ h9 => h9) rfl dX2_length_5 ?_
  refine zc_V (As := [.int (iI P)]) (rest := []) (ws := [(tt, .inr (2, [.ref fl, .int (iI lim), .ref s1, .ref s2, .int (iI bs), .int (iI P), .int (iI sm)])), (fl, .inr (0, [.int (iI C), .int (iI R), .ref pn, .int (iI np)])), (pn, .inl (cI, 49, .inl (aI gn))), (s1, .inr (1, [.ref d1, .ref r1, .int (iI c1)])), (d1, .inl (cI, 16807, .inl (aI g1)))]) (n := 1) hx hb (hml.trans hl.1.symm) hts hown hK hP (c_X1_distanceOf l D cI cJ s1 d1 r1 c1 g1 L P hL (by omega) (by omega)) (gd_V q_202 q_154 q_155 q_2 q_156) (by decide +kernel) rfl ⟨Nat.le_of_ble_eq_true rfl, Nat.le_of_ble_eq_true rfl⟩ ⟨Nat.zero_le _, Nat.zero_le _⟩ [3, 4] rfl 3 (ci := 1) rfl rfl rfl rfl (Nat.le_of_ble_eq_true rfl) dX2_length_8 (fun r_1 hr_1 => ?_)
  subst hr_1
  exact PM_iret hx hb hr hlk dX2_length_11 (by first | rfl | omega)
set_option maxRecDepth 100000 in
set_option maxHeartbeats 4000000 in
theorem c_X2_slack (l : Launch) (D : va_G) (cI cJ : ClassId) (tt fl s1 s2 pn d1 r1 : Nat) (lim bs P sm C R np c1 : Int) (gn g1 : Nat → Int) (N L : Int → Int) (hF : FlOK C R np N gn) (hL : LenOK L g1) (hlm : 1 ≤ lim ∧ lim ≤ 60) (hP0 : 0 ≤ P ∧ P < 16807) : PM l yX2_slack (.code yX2_slack cX2_slack 1 (some .int)) 2 [.ref tt] D cI cJ [(tt, .inr (2, [.ref fl, .int (iI lim), .ref s1, .ref s2, .int (iI bs), .int (iI P), .int (iI sm)])), (fl, .inr (0, [.int (iI C), .int (iI R), .ref pn, .int (iI np)])), (pn, .inl (cI, 49, .inl (aI gn))), (s1, .inr (1, [.ref d1, .ref r1, .int (iI c1)])), (d1, .inl (cI, 16807, .inl (aI g1)))] (fun r => r = lim - L P) := by
  obtain ⟨hC1, hC2, hR1, hR2, hp1, hp2, -, -⟩ := id hF
  refine PM_of (by decide) rfl (Nat.le_of_ble_eq_true rfl) (fun p e s m below meth c ls hx hb hr hts hown hlk hml hK hP hl => ?_)
  have hl : lv_has ls 1 [(0, .ref tt)] := hl
  refine lv_aload_n hx hb dX2_slack_0 rfl (lv_at hl 0 rfl) ?_
  refine va_get (D := D) (ci := 2) (v := .int (iI lim)) (C := RX2) (T := TX2) (N := 7) hx hb hts uX2 hown hK.1 hP 0 rfl rfl 1 (by decide) (hts _ q_158) (fun _ h9 => h9) rfl dX2_slack_1 ?_
  refine lv_aload_n hx hb dX2_slack_4 rfl (lv_at hl 0 rfl) ?_
  refine zc_V (As := []) (rest := [.int (iI lim)]) (ws := [(tt, .inr (2, [.ref fl, .int (iI lim), .ref s1, .ref s2, .int (iI bs), .int (iI P), .int (iI sm)])), (fl, .inr (0, [.int (iI C), .int (iI R), .ref pn, .int (iI np)])), (pn, .inl (cI, 49, .inl (aI gn))), (s1, .inr (1, [.ref d1, .ref r1, .int (iI c1)])), (d1, .inl (cI, 16807, .inl (aI g1)))]) (n := 0) hx hb (hml.trans hl.1.symm) hts hown hK hP (c_X2_length l D cI cJ tt fl s1 s2 pn d1 r1 lim bs P sm C R np c1 gn g1 N L hF hL hlm hP0) (gd_V q_207 q_199 q_200 q_1 q_201) (by decide +kernel) rfl ⟨Nat.le_of_ble_eq_true rfl, Nat.le_of_ble_eq_true rfl⟩ ⟨Nat.zero_le _, Nat.zero_le _⟩ [0, 1, 2, 3, 4] rfl 0 (ci := 2) rfl rfl rfl rfl (Nat.le_of_ble_eq_true rfl) dX2_slack_5 (fun r_1 hr_1 => ?_)
  subst hr_1
  refine zv_isub hx hb dX2_slack_8 ?_
  exact PM_iret hx hb hr hlk dX2_slack_9 (by first | rfl | omega)
set_option maxRecDepth 100000 in
set_option maxHeartbeats 4000000 in
theorem c_X2_steps (l : Launch) (D : va_G) (cI cJ : ClassId) (tt fl s1 s2 pn d1 r1 : Nat) (lim bs P sm C R np c1 : Int) (gn g1 : Nat → Int) (N L : Int → Int) (hF : FlOK C R np N gn) (hL : LenOK L g1) (hlm : 1 ≤ lim ∧ lim ≤ 60) : PM l yX2_steps (.code yX2_steps cX2_steps 1 (some .int)) 0 [.ref tt] D cI cJ [(tt, .inr (2, [.ref fl, .int (iI lim), .ref s1, .ref s2, .int (iI bs), .int (iI P), .int (iI sm)])), (fl, .inr (0, [.int (iI C), .int (iI R), .ref pn, .int (iI np)])), (pn, .inl (cI, 49, .inl (aI gn))), (s1, .inr (1, [.ref d1, .ref r1, .int (iI c1)])), (d1, .inl (cI, 16807, .inl (aI g1)))] (fun r => r = sm) := by
  obtain ⟨hC1, hC2, hR1, hR2, hp1, hp2, -, -⟩ := id hF
  refine PM_of (by decide) rfl (Nat.le_of_ble_eq_true rfl) (fun p e s m below meth c ls hx hb hr hts hown hlk hml hK hP hl => ?_)
  have hl : lv_has ls 1 [(0, .ref tt)] := hl
  refine lv_aload_n hx hb dX2_steps_0 rfl (lv_at hl 0 rfl) ?_
  refine va_get (D := D) (ci := 2) (v := .int (iI sm)) (C := RX2) (T := TX2) (N := 7) hx hb hts uX2 hown hK.1 hP 0 rfl rfl 6 (by decide) (hts _ q_163) (fun _ h9 => h9) rfl dX2_steps_1 ?_
  exact PM_iret hx hb hr hlk dX2_steps_4 (by first | rfl | omega)
set_option maxRecDepth 100000 in
set_option maxHeartbeats 4000000 in
theorem c_X2_column (l : Launch) (D : va_G) (cI cJ : ClassId) (tt fl s1 s2 pn d1 r1 : Nat) (lim bs P sm C R np c1 : Int) (gn g1 : Nat → Int) (N L : Int → Int) (hF : FlOK C R np N gn) (hL : LenOK L g1) (hlm : 1 ≤ lim ∧ lim ≤ 60) (hP0 : 0 ≤ P ∧ P < 16807) : PM l yX2_column (.code yX2_column cX2_column 1 (some .int)) 1 [.ref tt] D cI cJ [(tt, .inr (2, [.ref fl, .int (iI lim), .ref s1, .ref s2, .int (iI bs), .int (iI P), .int (iI sm)])), (fl, .inr (0, [.int (iI C), .int (iI R), .ref pn, .int (iI np)])), (pn, .inl (cI, 49, .inl (aI gn))), (s1, .inr (1, [.ref d1, .ref r1, .int (iI c1)])), (d1, .inl (cI, 16807, .inl (aI g1)))] (fun r => r = P / 343 / 7) := by
  obtain ⟨hC1, hC2, hR1, hR2, hp1, hp2, -, -⟩ := id hF
  refine PM_of (by decide) rfl (Nat.le_of_ble_eq_true rfl) (fun p e s m below meth c ls hx hb hr hts hown hlk hml hK hP hl => ?_)
  have hl : lv_has ls 1 [(0, .ref tt)] := hl
  refine lv_aload_n hx hb dX2_column_0 rfl (lv_at hl 0 rfl) ?_
  refine va_get (D := D) (ci := 2) (v := .int (iI P)) (C := RX2) (T := TX2) (N := 7) hx hb hts uX2 hown hK.1 hP 0 rfl rfl 5 (by decide) (hts _ q_162) (fun _ h9 => h9) rfl dX2_column_1 ?_
  refine zc_S (As := [.int (iI P)]) (rest := []) (ws := [(tt, .inr (2, [.ref fl, .int (iI lim), .ref s1, .ref s2, .int (iI bs), .int (iI P), .int (iI sm)])), (fl, .inr (0, [.int (iI C), .int (iI R), .ref pn, .int (iI np)])), (pn, .inl (cI, 49, .inl (aI gn))), (s1, .inr (1, [.ref d1, .ref r1, .int (iI c1)])), (d1, .inl (cI, 16807, .inl (aI g1)))]) (n := 1) hx hb (hml.trans hl.1.symm) hts hown hK hP (c_X2_squareOf l D cI cJ P (by omega) (by omega)) (gd_S q_183 q_102 q_1 q_103) (by decide +kernel) rfl ⟨Nat.le_of_ble_eq_true rfl, Nat.le_of_ble_eq_true rfl⟩ ⟨Nat.zero_le _, Nat.zero_le _⟩ [] rfl rfl (Nat.le_of_ble_eq_true rfl) dX2_column_4 (fun r_1 hr_1 => ?_)
  subst hr_1
  refine zc_S (As := [.int (iI (P / 343))]) (rest := []) (ws := [(tt, .inr (2, [.ref fl, .int (iI lim), .ref s1, .ref s2, .int (iI bs), .int (iI P), .int (iI sm)])), (fl, .inr (0, [.int (iI C), .int (iI R), .ref pn, .int (iI np)])), (pn, .inl (cI, 49, .inl (aI gn))), (s1, .inr (1, [.ref d1, .ref r1, .int (iI c1)])), (d1, .inl (cI, 16807, .inl (aI g1)))]) (n := 1) hx hb (hml.trans hl.1.symm) hts hown hK hP (c_X2_columnOf l D cI cJ (P / 343) (by omega) (by omega)) (gd_S q_184 q_105 q_1 q_106) (by decide +kernel) rfl ⟨Nat.le_of_ble_eq_true rfl, Nat.le_of_ble_eq_true rfl⟩ ⟨Nat.zero_le _, Nat.zero_le _⟩ [] rfl rfl (Nat.le_of_ble_eq_true rfl) dX2_column_7 (fun r_2 hr_2 => ?_)
  subst hr_2
  exact PM_iret hx hb hr hlk dX2_column_10 (by first | rfl | omega)
set_option maxRecDepth 100000 in
set_option maxHeartbeats 4000000 in
theorem c_X2_row (l : Launch) (D : va_G) (cI cJ : ClassId) (tt fl s1 s2 pn d1 r1 : Nat) (lim bs P sm C R np c1 : Int) (gn g1 : Nat → Int) (N L : Int → Int) (hF : FlOK C R np N gn) (hL : LenOK L g1) (hlm : 1 ≤ lim ∧ lim ≤ 60) (hP0 : 0 ≤ P ∧ P < 16807) : PM l yX2_row (.code yX2_row cX2_row 1 (some .int)) 1 [.ref tt] D cI cJ [(tt, .inr (2, [.ref fl, .int (iI lim), .ref s1, .ref s2, .int (iI bs), .int (iI P), .int (iI sm)])), (fl, .inr (0, [.int (iI C), .int (iI R), .ref pn, .int (iI np)])), (pn, .inl (cI, 49, .inl (aI gn))), (s1, .inr (1, [.ref d1, .ref r1, .int (iI c1)])), (d1, .inl (cI, 16807, .inl (aI g1)))] (fun r => r = P / 343 % 7) := by
  obtain ⟨hC1, hC2, hR1, hR2, hp1, hp2, -, -⟩ := id hF
  refine PM_of (by decide) rfl (Nat.le_of_ble_eq_true rfl) (fun p e s m below meth c ls hx hb hr hts hown hlk hml hK hP hl => ?_)
  have hl : lv_has ls 1 [(0, .ref tt)] := hl
  refine lv_aload_n hx hb dX2_row_0 rfl (lv_at hl 0 rfl) ?_
  refine va_get (D := D) (ci := 2) (v := .int (iI P)) (C := RX2) (T := TX2) (N := 7) hx hb hts uX2 hown hK.1 hP 0 rfl rfl 5 (by decide) (hts _ q_162) (fun _ h9 => h9) rfl dX2_row_1 ?_
  refine zc_S (As := [.int (iI P)]) (rest := []) (ws := [(tt, .inr (2, [.ref fl, .int (iI lim), .ref s1, .ref s2, .int (iI bs), .int (iI P), .int (iI sm)])), (fl, .inr (0, [.int (iI C), .int (iI R), .ref pn, .int (iI np)])), (pn, .inl (cI, 49, .inl (aI gn))), (s1, .inr (1, [.ref d1, .ref r1, .int (iI c1)])), (d1, .inl (cI, 16807, .inl (aI g1)))]) (n := 1) hx hb (hml.trans hl.1.symm) hts hown hK hP (c_X2_squareOf l D cI cJ P (by omega) (by omega)) (gd_S q_183 q_102 q_1 q_103) (by decide +kernel) rfl ⟨Nat.le_of_ble_eq_true rfl, Nat.le_of_ble_eq_true rfl⟩ ⟨Nat.zero_le _, Nat.zero_le _⟩ [] rfl rfl (Nat.le_of_ble_eq_true rfl) dX2_row_4 (fun r_1 hr_1 => ?_)
  subst hr_1
  refine zc_S (As := [.int (iI (P / 343))]) (rest := []) (ws := [(tt, .inr (2, [.ref fl, .int (iI lim), .ref s1, .ref s2, .int (iI bs), .int (iI P), .int (iI sm)])), (fl, .inr (0, [.int (iI C), .int (iI R), .ref pn, .int (iI np)])), (pn, .inl (cI, 49, .inl (aI gn))), (s1, .inr (1, [.ref d1, .ref r1, .int (iI c1)])), (d1, .inl (cI, 16807, .inl (aI g1)))]) (n := 1) hx hb (hml.trans hl.1.symm) hts hown hK hP (c_X2_rowOf l D cI cJ (P / 343) (by omega) (by omega)) (gd_S q_189 q_108 q_1 q_109) (by decide +kernel) rfl ⟨Nat.le_of_ble_eq_true rfl, Nat.le_of_ble_eq_true rfl⟩ ⟨Nat.zero_le _, Nat.zero_le _⟩ [] rfl rfl (Nat.le_of_ble_eq_true rfl) dX2_row_7 (fun r_2 hr_2 => ?_)
  subst hr_2
  exact PM_iret hx hb hr hlk dX2_row_10 (by first | rfl | omega)
set_option maxRecDepth 100000 in
set_option maxHeartbeats 4000000 in
theorem c_X2_letters (l : Launch) (D : va_G) (cI cJ : ClassId) (tt fl s1 s2 pn d1 r1 : Nat) (lim bs P sm C R np c1 : Int) (gn g1 : Nat → Int) (N L : Int → Int) (hF : FlOK C R np N gn) (hL : LenOK L g1) (hlm : 1 ≤ lim ∧ lim ≤ 60) (hP0 : 0 ≤ P ∧ P < 16807) : PM l yX2_letters (.code yX2_letters cX2_letters 1 (some .int)) 1 [.ref tt] D cI cJ [(tt, .inr (2, [.ref fl, .int (iI lim), .ref s1, .ref s2, .int (iI bs), .int (iI P), .int (iI sm)])), (fl, .inr (0, [.int (iI C), .int (iI R), .ref pn, .int (iI np)])), (pn, .inl (cI, 49, .inl (aI gn))), (s1, .inr (1, [.ref d1, .ref r1, .int (iI c1)])), (d1, .inl (cI, 16807, .inl (aI g1)))] (fun r => r = lenZ (P % 343)) := by
  obtain ⟨hC1, hC2, hR1, hR2, hp1, hp2, -, -⟩ := id hF
  refine PM_of (by decide) rfl (Nat.le_of_ble_eq_true rfl) (fun p e s m below meth c ls hx hb hr hts hown hlk hml hK hP hl => ?_)
  have hl : lv_has ls 1 [(0, .ref tt)] := hl
  refine lv_aload_n hx hb dX2_letters_0 rfl (lv_at hl 0 rfl) ?_
  refine va_get (D := D) (ci := 2) (v := .int (iI P)) (C := RX2) (T := TX2) (N := 7) hx hb hts uX2 hown hK.1 hP 0 rfl rfl 5 (by decide) (hts _ q_162) (fun _ h9 => h9) rfl dX2_letters_1 ?_
  refine zc_S (As := [.int (iI P)]) (rest := []) (ws := [(tt, .inr (2, [.ref fl, .int (iI lim), .ref s1, .ref s2, .int (iI bs), .int (iI P), .int (iI sm)])), (fl, .inr (0, [.int (iI C), .int (iI R), .ref pn, .int (iI np)])), (pn, .inl (cI, 49, .inl (aI gn))), (s1, .inr (1, [.ref d1, .ref r1, .int (iI c1)])), (d1, .inl (cI, 16807, .inl (aI g1)))]) (n := 1) hx hb (hml.trans hl.1.symm) hts hown hK hP (c_X2_wordOf l D cI cJ P (by omega) (by omega)) (gd_S q_194 q_111 q_1 q_112) (by decide +kernel) rfl ⟨Nat.le_of_ble_eq_true rfl, Nat.le_of_ble_eq_true rfl⟩ ⟨Nat.zero_le _, Nat.zero_le _⟩ [] rfl rfl (Nat.le_of_ble_eq_true rfl) dX2_letters_4 (fun r_1 hr_1 => ?_)
  subst hr_1
  refine zc_S (As := [.int (iI (P % 343))]) (rest := []) (ws := [(tt, .inr (2, [.ref fl, .int (iI lim), .ref s1, .ref s2, .int (iI bs), .int (iI P), .int (iI sm)])), (fl, .inr (0, [.int (iI C), .int (iI R), .ref pn, .int (iI np)])), (pn, .inl (cI, 49, .inl (aI gn))), (s1, .inr (1, [.ref d1, .ref r1, .int (iI c1)])), (d1, .inl (cI, 16807, .inl (aI g1)))]) (n := 1) hx hb (hml.trans hl.1.symm) hts hown hK hP (c_X2_lettersOf l D cI cJ (P % 343) (by omega) (by omega)) (gd_S q_195 q_196 q_1 q_197) (by decide +kernel) rfl ⟨Nat.le_of_ble_eq_true rfl, Nat.le_of_ble_eq_true rfl⟩ ⟨Nat.zero_le _, Nat.zero_le _⟩ [] rfl rfl (Nat.le_of_ble_eq_true rfl) dX2_letters_7 (fun r_2 hr_2 => ?_)
  subst hr_2
  exact PM_iret hx hb hr hlk dX2_letters_10 (by first | rfl | omega)
set_option maxRecDepth 100000 in
set_option maxHeartbeats 4000000 in
theorem c_X2_bends (l : Launch) (D : va_G) (cI cJ : ClassId) (tt fl s1 s2 pn d1 r1 : Nat) (lim bs P sm C R np c1 : Int) (gn g1 : Nat → Int) (N L : Int → Int) (hF : FlOK C R np N gn) (hL : LenOK L g1) (hlm : 1 ≤ lim ∧ lim ≤ 60) (hP0 : 0 ≤ P ∧ P < 16807) (hA : AlOK C R N L P (L P)) (hrow : PlOK R (alZ C R N L P (L P).toNat)) : PM l yX2_bends (.code yX2_bends cX2_bends 6 (some .int)) 6 [.ref tt] D cI cJ [(tt, .inr (2, [.ref fl, .int (iI lim), .ref s1, .ref s2, .int (iI bs), .int (iI P), .int (iI sm)])), (fl, .inr (0, [.int (iI C), .int (iI R), .ref pn, .int (iI np)])), (pn, .inl (cI, 49, .inl (aI gn))), (s1, .inr (1, [.ref d1, .ref r1, .int (iI c1)])), (d1, .inl (cI, 16807, .inl (aI g1)))] (fun r => r = bdN C R N L P (L P - 1).toNat) := by
  obtain ⟨hC1, hC2, hR1, hR2, hp1, hp2, -, -⟩ := id hF
  have hLP := hL.b P
  have hrow0 : ∀ j : Nat, (j : Int) ≤ L P → PlOK R (alZ C R N L P j) := fun j hj => by
    rcases Int.lt_or_eq_of_le hj with h | h
    · exact (hA j h).1
    · rw [show j = (L P).toNat by omega]; exact hrow
  have hrP : 0 ≤ P ∧ P < 16807 ∧ P / 343 % 7 < R := by
    by_cases h : 0 ≤ L P
    · exact hrow0 0 h
    · rw [show (L P).toNat = 0 by omega] at hrow; exact hrow
  have hcb := cdZ_b C R N L P
  refine PM_of (by decide) rfl (Nat.le_of_ble_eq_true rfl) (fun p e s m below meth c ls hx hb hr hts hown hlk hml hK hP hl => ?_)
  have hl : lv_has ls 6 [(0, .ref tt)] := hl
  refine zv_iconst hx hb dX2_bends_0 ?_
  refine lv_istore_n (lv' := [(1, .int (iI 0)), (0, .ref tt)]) hx hb dX2_bends_1 rfl hl (by decide) rfl (fun ls hl => ?_)
  refine lv_aload_n hx hb dX2_bends_2 rfl (lv_at hl 1 rfl) ?_
  refine va_get (D := D) (ci := 2) (v := .int (iI P)) (C := RX2) (T := TX2) (N := 7) hx hb hts uX2 hown hK.1 hP 0 rfl rfl 5 (by decide) (hts _ q_162) (fun _ h9 => h9) rfl dX2_bends_3 ?_
  refine lv_istore_n (lv' := [(2, .int (iI P)), (1, .int (iI 0)), (0, .ref tt)]) hx hb dX2_bends_6 rfl hl (by decide) rfl (fun ls hl => ?_)
  refine lv_aload_n hx hb dX2_bends_7 rfl (lv_at hl 2 rfl) ?_
  refine lv_iload_n hx hb dX2_bends_8 rfl (lv_at hl 0 rfl) ?_
  refine zc_V (As := [.int (iI P)]) (rest := []) (ws := [(tt, .inr (2, [.ref fl, .int (iI lim), .ref s1, .ref s2, .int (iI bs), .int (iI P), .int (iI sm)])), (fl, .inr (0, [.int (iI C), .int (iI R), .ref pn, .int (iI np)])), (pn, .inl (cI, 49, .inl (aI gn))), (s1, .inr (1, [.ref d1, .ref r1, .int (iI c1)])), (d1, .inl (cI, 16807, .inl (aI g1)))]) (n := 1) hx hb (hml.trans hl.1.symm) hts hown hK hP (c_X2_cableDirection l D cI cJ tt fl s1 s2 pn d1 r1 lim bs P sm C R np c1 gn g1 N L P hF hL hlm (by omega) (by omega) (by omega)) (gd_V q_216 q_218 q_1006 q_1 q_219) (by decide +kernel) rfl ⟨Nat.le_of_ble_eq_true rfl, Nat.le_of_ble_eq_true rfl⟩ ⟨Nat.zero_le _, Nat.zero_le _⟩ [0, 1, 2, 3, 4] rfl 0 (ci := 2) rfl rfl rfl rfl (Nat.le_of_ble_eq_true rfl) dX2_bends_9 (fun r_1 hr_1 => ?_)
  subst hr_1
  refine lv_istore_n (lv' := [(3, .int (iI (cdZ C R N L P))), (2, .int (iI P)), (1, .int (iI 0)), (0, .ref tt)]) hx hb dX2_bends_12 rfl hl (by decide) rfl (fun ls hl => ?_)
  refine lv_aload_n hx hb dX2_bends_13 rfl (lv_at hl 3 rfl) ?_
  refine zc_V (As := []) (rest := []) (ws := [(tt, .inr (2, [.ref fl, .int (iI lim), .ref s1, .ref s2, .int (iI bs), .int (iI P), .int (iI sm)])), (fl, .inr (0, [.int (iI C), .int (iI R), .ref pn, .int (iI np)])), (pn, .inl (cI, 49, .inl (aI gn))), (s1, .inr (1, [.ref d1, .ref r1, .int (iI c1)])), (d1, .inl (cI, 16807, .inl (aI g1)))]) (n := 0) hx hb (hml.trans hl.1.symm) hts hown hK hP (c_X2_length l D cI cJ tt fl s1 s2 pn d1 r1 lim bs P sm C R np c1 gn g1 N L hF hL hlm hP0) (gd_V q_207 q_199 q_200 q_1 q_201) (by decide +kernel) rfl ⟨Nat.le_of_ble_eq_true rfl, Nat.le_of_ble_eq_true rfl⟩ ⟨Nat.zero_le _, Nat.zero_le _⟩ [0, 1, 2, 3, 4] rfl 0 (ci := 2) rfl rfl rfl rfl (Nat.le_of_ble_eq_true rfl) dX2_bends_14 (fun r_2 hr_2 => ?_)
  subst hr_2
  refine lv_istore (lv' := [(4, .int (iI (L P))), (3, .int (iI (cdZ C R N L P))), (2, .int (iI P)), (1, .int (iI 0)), (0, .ref tt)]) hx hb dX2_bends_17 hl (by decide) rfl (fun ls hl => ?_)
  have loop19 : ∀ (n : Nat) (u y f v : Int) (j : Nat), (v = L P - (j : Int)) → (j = 0 ∨ 1 ≤ v) → (y = alZ C R N L P j) → (f = cdZ C R N L (alZ C R N L P j)) → (u = bdN C R N L P j) → (v + 1 < (n : Int)) → ∀ ls : Array Slot, lv_has ls 6 [(0, .ref tt), (1, .int (iI u)), (2, .int (iI y)), (3, .int (iI f)), (4, .int (iI v))] → W p l e (lvl 6) s m [.ref tt].toArray below meth c s.heap [] 0 0 (MQ below (PQ (fun r => r = bdN C R N L P (L P - 1).toNat)) [.ref tt].toArray s 0 0 (fun _ => False)) (F0 m 19 ls []) := by
    intro n
    induction n with
    | zero => intro u y f v j hv hv0 hy hf hu hms; exfalso; omega
    | succ n ih =>
      intro u y f v j hv hv0 hy hf hu hms ls hl
      have hfb := cdZ_b C R N L (alZ C R N L P j)
      rw [← hf] at hfb
      refine lv_iload hx hb dX2_bends_19 (lv_at hl 4 rfl) ?_
      refine zv_iconst hx hb dX2_bends_21 ?_
      refine zv_icmp_le hx hb dX2_bends_22 (tgt := 60) (by decide) ⟨by omega, by omega⟩ ⟨by omega, by omega⟩ (fun c_3 => ?_) (fun c_3 => ?_)
      · refine lv_iload_n hx hb dX2_bends_60 rfl (lv_at hl 1 rfl) ?_
        exact PM_iret hx hb hr hlk dX2_bends_61 (by rw [hu, show (L P - 1).toNat = j by omega])
      · refine lv_aload_n hx hb dX2_bends_25 rfl (lv_at hl 0 rfl) ?_
        refine va_get (D := D) (ci := 2) (v := .ref fl) (C := RX2) (T := TX2) (N := 7) hx hb hts uX2 hown hK.1 hP 0 rfl rfl 0 (by decide) (hts _ q_157) (fun _ h9 => h9) rfl dX2_bends_26 ?_
        refine lv_iload_n hx hb dX2_bends_29 rfl (lv_at hl 2 rfl) ?_
        refine lv_iload_n hx hb dX2_bends_30 rfl (lv_at hl 3 rfl) ?_
        obtain ⟨hA1, hA2, hA3⟩ := hA j (by omega)
        have hA4 := hrow0 (j + 1) (by omega)
        rw [show alZ C R N L P (j + 1) = aftZ C R N y f by rw [hy, hf]; rfl] at hA4
        rw [← hf] at hA2 hA3
        rw [← hy] at hA1
        obtain ⟨hy0, hy1, hy2⟩ := hA1
        obtain ⟨hz0, hz1, hz2⟩ := hA4
        refine zc_V (As := [.int (iI y), .int (iI f)]) (rest := []) (ws := [(tt, .inr (2, [.ref fl, .int (iI lim), .ref s1, .ref s2, .int (iI bs), .int (iI P), .int (iI sm)])), (fl, .inr (0, [.int (iI C), .int (iI R), .ref pn, .int (iI np)])), (pn, .inl (cI, 49, .inl (aI gn))), (s1, .inr (1, [.ref d1, .ref r1, .int (iI c1)])), (d1, .inl (cI, 16807, .inl (aI g1)))]) (n := 2) hx hb (hml.trans hl.1.symm) hts hown hK hP (c_X0_after l D cI cJ fl pn C R np gn N y f hF (by omega) (by omega) (by omega) (by omega) (by omega)) (gd_V q_97 q_98 q_99 q_3 q_100) (by decide +kernel) rfl ⟨Nat.le_of_ble_eq_true rfl, Nat.le_of_ble_eq_true rfl⟩ ⟨Nat.zero_le _, Nat.zero_le _⟩ [1, 2] rfl 1 (ci := 0) rfl rfl rfl rfl (Nat.le_of_ble_eq_true rfl) dX2_bends_31 (fun r_4 hr_4 => ?_)
        subst hr_4
        refine lv_istore_n (lv' := [(2, .int (iI (aftZ C R N y f))), (0, .ref tt), (1, .int (iI u)), (3, .int (iI f)), (4, .int (iI v))]) hx hb dX2_bends_34 rfl hl (by decide) rfl (fun ls hl => ?_)
        refine lv_aload_n hx hb dX2_bends_35 rfl (lv_at hl 1 rfl) ?_
        refine lv_iload_n hx hb dX2_bends_36 rfl (lv_at hl 0 rfl) ?_
        refine zc_V (As := [.int (iI (aftZ C R N y f))]) (rest := []) (ws := [(tt, .inr (2, [.ref fl, .int (iI lim), .ref s1, .ref s2, .int (iI bs), .int (iI P), .int (iI sm)])), (fl, .inr (0, [.int (iI C), .int (iI R), .ref pn, .int (iI np)])), (pn, .inl (cI, 49, .inl (aI gn))), (s1, .inr (1, [.ref d1, .ref r1, .int (iI c1)])), (d1, .inl (cI, 16807, .inl (aI g1)))]) (n := 1) hx hb (hml.trans hl.1.symm) hts hown hK hP (c_X2_cableDirection l D cI cJ tt fl s1 s2 pn d1 r1 lim bs P sm C R np c1 gn g1 N L (aftZ C R N y f) hF hL hlm (by omega) (by omega) (by omega)) (gd_V q_216 q_218 q_1006 q_1 q_219) (by decide +kernel) rfl ⟨Nat.le_of_ble_eq_true rfl, Nat.le_of_ble_eq_true rfl⟩ ⟨Nat.zero_le _, Nat.zero_le _⟩ [0, 1, 2, 3, 4] rfl 0 (ci := 2) rfl rfl rfl rfl (Nat.le_of_ble_eq_true rfl) dX2_bends_37 (fun r_5 hr_5 => ?_)
        subst hr_5
        refine lv_istore (lv' := [(5, .int (iI (cdZ C R N L (aftZ C R N y f)))), (2, .int (iI (aftZ C R N y f))), (0, .ref tt), (1, .int (iI u)), (3, .int (iI f)), (4, .int (iI v))]) hx hb dX2_bends_40 hl (by decide) rfl (fun ls hl => ?_)
        refine lv_iload hx hb dX2_bends_42 (lv_at hl 0 rfl) ?_
        have hgb := cdZ_b C R N L (aftZ C R N y f)
        refine lv_iload_n hx hb dX2_bends_44 rfl (lv_at hl 4 rfl) ?_
        refine zv_icmp_eq hx hb dX2_bends_45 (tgt := 51) (by decide) ⟨by omega, by omega⟩ ⟨by omega, by omega⟩ (fun c_6 => ?_) (fun c_6 => ?_)
        · refine lv_iload hx hb dX2_bends_51 (lv_at hl 0 rfl) ?_
          refine lv_istore_n (lv' := [(3, .int (iI (cdZ C R N L (aftZ C R N y f)))), (5, .int (iI (cdZ C R N L (aftZ C R N y f)))), (2, .int (iI (aftZ C R N y f))), (0, .ref tt), (1, .int (iI u)), (4, .int (iI v))]) hx hb dX2_bends_53 rfl hl (by decide) rfl (fun ls hl => ?_)
          refine zv_iinc (k := 5) (lv' := [(4, .int (iI (v + (-1)))), (3, .int (iI (cdZ C R N L (aftZ C R N y f)))), (5, .int (iI (cdZ C R N L (aftZ C R N y f)))), (2, .int (iI (aftZ C R N y f))), (0, .ref tt), (1, .int (iI u))]) hx hb dX2_bends_54 hl rfl (by decide) rfl (fun ls hl => ?_)
          refine lv_goto (tgt := 19) hx hb dX2_bends_57 (by decide) ?_
          exact ih u (aftZ C R N y f) (cdZ C R N L (aftZ C R N y f)) (v + (-1)) (j + 1) (by omega) (by omega) (by rw [hy, hf]; rfl) (by rw [hy, hf]; rfl) (by show _ = bdN C R N L P j + _; rw [← hu, show alZ C R N L P (j + 1) = aftZ C R N y f by rw [hy, hf]; rfl, ← hf]; first | rw [if_pos (by assumption)]; omega | rw [if_neg (by assumption)]) (by omega) ls (lv_sub hl [4, 5, 3, 1, 0] rfl)
        · refine zv_iinc (k := 3) (lv' := [(1, .int (iI (u + 1))), (5, .int (iI (cdZ C R N L (aftZ C R N y f)))), (2, .int (iI (aftZ C R N y f))), (0, .ref tt), (3, .int (iI f)), (4, .int (iI v))]) hx hb dX2_bends_48 hl rfl (by decide) rfl (fun ls hl => ?_)
          refine lv_iload hx hb dX2_bends_51 (lv_at hl 1 rfl) ?_
          refine lv_istore_n (lv' := [(3, .int (iI (cdZ C R N L (aftZ C R N y f)))), (1, .int (iI (u + 1))), (5, .int (iI (cdZ C R N L (aftZ C R N y f)))), (2, .int (iI (aftZ C R N y f))), (0, .ref tt), (4, .int (iI v))]) hx hb dX2_bends_53 rfl hl (by decide) rfl (fun ls hl => ?_)
          refine zv_iinc (k := 5) (lv' := [(4, .int (iI (v + (-1)))), (3, .int (iI (cdZ C R N L (aftZ C R N y f)))), (1, .int (iI (u + 1))), (5, .int (iI (cdZ C R N L (aftZ C R N y f)))), (2, .int (iI (aftZ C R N y f))), (0, .ref tt)]) hx hb dX2_bends_54 hl rfl (by decide) rfl (fun ls hl => ?_)
          refine lv_goto (tgt := 19) hx hb dX2_bends_57 (by decide) ?_
          exact ih (u + 1) (aftZ C R N y f) (cdZ C R N L (aftZ C R N y f)) (v + (-1)) (j + 1) (by omega) (by omega) (by rw [hy, hf]; rfl) (by rw [hy, hf]; rfl) (by show _ = bdN C R N L P j + _; rw [← hu, show alZ C R N L P (j + 1) = aftZ C R N y f by rw [hy, hf]; rfl, ← hf]; first | rw [if_pos (by assumption)]; omega | rw [if_neg (by assumption)]) (by omega) ls (lv_sub hl [5, 2, 4, 1, 0] rfl)
  exact loop19 ((L P).toNat + 2) 0 P (cdZ C R N L P) (L P) 0 (by omega) (by omega) rfl rfl rfl (by omega) ls (lv_sub hl [4, 3, 2, 1, 0] rfl)
end
section
theorem plZ_c {C R : Int} {N : Int → Int} {a b w : Int} (hR : R ≤ 7) (hw : 0 ≤ w) (h : plZ C R N a b w ≠ -1) : plZ C R N a b w / 343 / 7 = a ∧ plZ C R N a b w / 343 % 7 = b ∧ plZ C R N a b w % 343 = w ∧ w < 343 ∧ 0 ≤ a ∧ a < C ∧ 0 ≤ b ∧ b < R ∧ N (a * 7 + b) = -1 ∧ plZ C R N a b w = (a * 7 + b) * 343 + w := by
  unfold plZ at h ⊢
  split at h
  · rename_i hc
    rw [if_pos hc]
    obtain ⟨h1, h2, h3, h4, h5, h6⟩ := hc
    refine ⟨by omega, by omega, by omega, h1, h2, h3, h4, h5, h6, rfl⟩
  · exact absurd rfl h
/-- a walk of so many steps -/
def wkZ (C R : Int) (N : Int → Int) : Nat → Int → Int → Prop
  | 0, a, b => a = b
  | k + 1, a, b => ∃ d : Int, 0 ≤ d ∧ d ≤ 3 ∧ aftZ C R N a d ≠ -1 ∧ wkZ C R N k (aftZ C R N a d) b
def apZ (a b : Int) : Int := absZ (a / 343 / 7 - b / 343 / 7) + absZ (a / 343 % 7 - b / 343 % 7)
theorem aftZ_ap {C R np : Int} {N : Int → Int} {gn : Nat → Int} (hF : FlOK C R np N gn) {a b d : Int} (ha : PlOK R a) (hd0 : 0 ≤ d) (hd : d ≤ 3) (h : aftZ C R N a d ≠ -1) : apZ a b ≤ apZ (aftZ C R N a d) b + 1 := by
  obtain ⟨z1, z2, z3⟩ := ha
  have hwR := wRZ_b hF (c := a / 343 / 7) (r := a / 343 % 7) (w := a % 343) (by omega) (by omega) (by omega)
  have hwL := wLZ_b hF (c := a / 343 / 7 - 1) (r := a / 343 % 7) (w := a % 343) (by omega) (by omega) (by omega)
  obtain ⟨-, -, -, hR, -⟩ := hF
  rcases (show d = 0 ∨ d = 1 ∨ d = 2 ∨ d = 3 by omega) with rfl | rfl | rfl | rfl
  · rw [aftZ_0] at h ⊢
    obtain ⟨e1, e2, -⟩ := plZ_c hR (by omega) h
    unfold apZ absZ
    rw [e1, e2]
    (repeat' split) <;> omega
  · rw [aftZ_1] at h ⊢
    obtain ⟨e1, e2, -⟩ := plZ_c hR hwR.1 h
    unfold apZ absZ
    rw [e1, e2]
    (repeat' split) <;> omega
  · rw [aftZ_2] at h ⊢
    obtain ⟨e1, e2, -⟩ := plZ_c hR (by omega) h
    unfold apZ absZ
    rw [e1, e2]
    (repeat' split) <;> omega
  · rw [aftZ_3] at h ⊢
    obtain ⟨e1, e2, -⟩ := plZ_c hR hwL.1 h
    unfold apZ absZ
    rw [e1, e2]
    (repeat' split) <;> omega
theorem aftZ_pl {C R np : Int} {N : Int → Int} {gn : Nat → Int} (hF : FlOK C R np N gn) {a d : Int} (ha : PlOK R a) (h : aftZ C R N a d ≠ -1) : PlOK R (aftZ C R N a d) := (aftZ_ok hF ha).elim (fun z => absurd z h) id
theorem wkZ_ap {C R np : Int} {N : Int → Int} {gn : Nat → Int} (hF : FlOK C R np N gn) : ∀ (k : Nat) (a b : Int), PlOK R a → wkZ C R N k a b → apZ a b ≤ k := by
  intro k
  induction k with
  | zero =>
    intro a b ha h
    have h : a = b := h
    subst h
    unfold apZ absZ
    (repeat' split) <;> omega
  | succ k ih =>
    intro a b ha h
    obtain ⟨d, h0, h1, h2, h3⟩ := h
    have e1 := aftZ_ap hF (b := b) ha h0 h1 h2
    have e2 := ih _ b (aftZ_pl hF ha h2) h3
    omega
/-- the fewest steps, up to a number of them, of all walks to a goal that have made some steps -/
def FW (C R : Int) (N : Int → Int) (u v md mo r : Int) : Prop := r ≤ mo + 1 ∧ (u ≠ -1 → ∀ k : Nat, wkZ C R N k u v → r ≤ md + k) ∧ (r = mo + 1 ∨ (u ≠ -1 ∧ ∃ k : Nat, wkZ C R N k u v ∧ r = md + k)) ∧ (mo + 1 ≤ r ∨ md ≤ r)
theorem FW_none {C R : Int} {N : Int → Int} {u v md mo : Int} (h : u = -1) : FW C R N u v md mo (mo + 1) := ⟨Int.le_refl _, fun z => absurd h z, Or.inl rfl, Or.inl (Int.le_refl _)⟩
theorem FW_far {C R np : Int} {N : Int → Int} {gn : Nat → Int} (hF : FlOK C R np N gn) {u v md mo : Int} (hu : PlOK R u) (h : mo < md + apZ u v) : FW C R N u v md mo (mo + 1) :=
  ⟨Int.le_refl _, fun _ k hk => by have := wkZ_ap hF k u v hu hk; omega, Or.inl rfl, Or.inl (Int.le_refl _)⟩
theorem FW_here {C R : Int} {N : Int → Int} {u v md mo : Int} (h : u = v) (hu : u ≠ -1) (hm : md ≤ mo + 1) : FW C R N u v md mo md :=
  ⟨hm, fun _ k _ => by omega, Or.inr ⟨hu, 0, h, by omega⟩, Or.inr (Int.le_refl _)⟩
theorem FW_4 {C R : Int} {N : Int → Int} {u v md mo f1 f2 f3 f4 : Int} (hu : u ≠ -1) (hv : u ≠ v) (h1 : FW C R N (aftZ C R N u 0) v (md + 1) (mo + 1 - 1) f1) (h2 : FW C R N (aftZ C R N u 1) v (md + 1) (f1 - 1) f2) (h3 : FW C R N (aftZ C R N u 2) v (md + 1) (f2 - 1) f3) (h4 : FW C R N (aftZ C R N u 3) v (md + 1) (f3 - 1) f4) (hm : md ≤ mo) : FW C R N u v md mo f4 := by
  obtain ⟨a1, b1, c1, d1⟩ := h1
  obtain ⟨a2, b2, c2, d2⟩ := h2
  obtain ⟨a3, b3, c3, d3⟩ := h3
  obtain ⟨a4, b4, c4, d4⟩ := h4
  replace c1 := fun (_ : Unit) => c1
  replace c2 := fun (_ : Unit) => c2
  replace c3 := fun (_ : Unit) => c3
  replace c4 := fun (_ : Unit) => c4
  have k4 : f4 ≤ mo + 1 ∧ f4 ≤ f1 ∧ f4 ≤ f2 ∧ f4 ≤ f3 := ⟨by omega, by omega, by omega, by omega⟩
  have k5 : mo + 1 ≤ f4 ∨ md ≤ f4 := by omega
  refine ⟨k4.1, ?_, ?_, k5⟩
  · intro _ k hk
    cases k with
    | zero => exact absurd hk hv
    | succ k =>
      obtain ⟨d, g0, g1, g2, g3⟩ := hk
      have hd4 : d = 0 ∨ d = 1 ∨ d = 2 ∨ d = 3 := by omega
      have hk1 : ((k + 1 : Nat) : Int) = (k : Int) + 1 := by omega
      rw [hk1]
      rcases hd4 with rfl | rfl | rfl | rfl
      · have := b1 g2 k g3; omega
      · have := b2 g2 k g3; omega
      · have := b3 g2 k g3; omega
      · have := b4 g2 k g3; omega
  · have go : ∀ (d : Int) (k : Nat), 0 ≤ d → d ≤ 3 → aftZ C R N u d ≠ -1 → wkZ C R N k (aftZ C R N u d) v → f4 = md + 1 + k → f4 = mo + 1 ∨ (u ≠ -1 ∧ ∃ k : Nat, wkZ C R N k u v ∧ f4 = md + k) :=
      fun d k g0 g1 g2 g3 g4 => Or.inr ⟨hu, k + 1, ⟨d, g0, g1, g2, g3⟩, by omega⟩
    rcases c4 () with q4 | ⟨e4, k, g3, g4⟩
    · rcases c3 () with q3 | ⟨e3, k, g3, g4⟩
      · rcases c2 () with q2 | ⟨e2, k, g3, g4⟩
        · rcases c1 () with q1 | ⟨e1, k, g3, g4⟩
          · exact Or.inl (by omega)
          · exact go 0 k (by omega) (by omega) e1 g3 (by omega)
        · exact go 1 k (by omega) (by omega) e2 g3 (by omega)
      · exact go 2 k (by omega) (by omega) e3 g3 (by omega)
    · exact go 3 k (by omega) (by omega) e4 g3 g4
end
section
set_option maxRecDepth 100000 in
set_option maxHeartbeats 4000000 in
theorem c_X2_fewestByTrying (l : Launch) (D : va_G) (cI cJ : ClassId) (fl pn : Nat) (C R np : Int) (gn : Nat → Int) (N : Int → Int) (hF : FlOK C R np N gn) : ∀ (n : Nat) (u v md mo : Int) (hu : u = -1 ∨ PlOK R u) (hv : PlOK R v) (hm0 : 0 ≤ md) (hm1 : md ≤ mo + 1) (hm2 : mo ≤ 60) (hm3 : mo < md + (n : Int)), PM l yX2_fewestByTrying (.code yX2_fewestByTrying cX2_fewestByTrying 7 (some .int)) (5 + n) [.ref fl, .int (iI u), .int (iI v), .int (iI md), .int (iI mo)] D cI cJ [(fl, .inr (0, [.int (iI C), .int (iI R), .ref pn, .int (iI np)])), (pn, .inl (cI, 49, .inl (aI gn)))] (FW C R N u v md mo) := by
  obtain ⟨hC1, hC2, hR1, hR2, hp1, hp2, -, -⟩ := id hF
  intro n
  induction n using Nat.strongRecOn with
  | ind n ih =>
  intro u v md mo hu hv hm0 hm1 hm2 hm3
  refine PM_of (by decide) rfl (Nat.le_of_ble_eq_true rfl) (fun p e s m below meth c ls hx hb hr hts hown hlk hml hK hP hl => ?_)
  have hl : lv_has ls 7 [(0, .ref fl), (1, .int (iI u)), (2, .int (iI v)), (3, .int (iI md)), (4, .int (iI mo))] := hl
  refine lv_iload_n hx hb dX2_fewestByTrying_0 rfl (lv_at hl 1 rfl) ?_
  refine zv_iconst hx hb dX2_fewestByTrying_1 ?_
  refine zv_icmp_eq hx hb dX2_fewestByTrying_2 (tgt := 23) (by decide) ⟨by rcases hu with h | ⟨h, h2, -⟩ <;> omega, by rcases hu with h | ⟨h, h2, -⟩ <;> omega⟩ ⟨by omega, by omega⟩ (fun c_1 => ?_) (fun c_1 => ?_)
  · refine lv_iload hx hb dX2_fewestByTrying_23 (lv_at hl 4 rfl) ?_
    refine zv_iconst hx hb dX2_fewestByTrying_25 ?_
    refine zv_iadd hx hb dX2_fewestByTrying_26 ?_
    exact PM_iret hx hb hr hlk dX2_fewestByTrying_27 (by first | exact FW_none (by assumption) | exact FW_far hF ⟨hu0, hu1, hu2⟩ (by omega) | exact FW_here (by assumption) (by omega) (by omega) | exact FW_4 (by omega) (by assumption) g1 g2 g3 g4 (by omega))
  · refine lv_iload_n hx hb dX2_fewestByTrying_5 rfl (lv_at hl 3 rfl) ?_
    rcases hu with hu | hu
    · exact absurd hu (by assumption)
    obtain ⟨hu0, hu1, hu2⟩ := id hu
    obtain ⟨hv0, hv1, hv2⟩ := id hv
    refine lv_iload_n hx hb dX2_fewestByTrying_6 rfl (lv_at hl 1 rfl) ?_
    refine zc_S (As := [.int (iI u)]) (rest := [.int (iI md)]) (ws := [(fl, .inr (0, [.int (iI C), .int (iI R), .ref pn, .int (iI np)])), (pn, .inl (cI, 49, .inl (aI gn)))]) (n := 1) hx hb (hml.trans hl.1.symm) hts hown hK hP (c_X2_squareOf l D cI cJ u (by omega) (by omega)) (gd_S q_183 q_102 q_1 q_103) (by decide +kernel) rfl ⟨by simp only [lvl]; omega, by simp only [lvl]; omega⟩ ⟨Nat.zero_le _, Nat.zero_le _⟩ [] rfl rfl (Nat.le_of_ble_eq_true rfl) dX2_fewestByTrying_7 (fun r_2 hr_2 => ?_)
    subst hr_2
    refine lv_iload_n hx hb dX2_fewestByTrying_10 rfl (lv_at hl 2 rfl) ?_
    refine zc_S (As := [.int (iI v)]) (rest := [.int (iI (u / 343)), .int (iI md)]) (ws := [(fl, .inr (0, [.int (iI C), .int (iI R), .ref pn, .int (iI np)])), (pn, .inl (cI, 49, .inl (aI gn)))]) (n := 1) hx hb (hml.trans hl.1.symm) hts hown hK hP (c_X2_squareOf l D cI cJ v (by omega) (by omega)) (gd_S q_183 q_102 q_1 q_103) (by decide +kernel) rfl ⟨by simp only [lvl]; omega, by simp only [lvl]; omega⟩ ⟨Nat.zero_le _, Nat.zero_le _⟩ [] rfl rfl (Nat.le_of_ble_eq_true rfl) dX2_fewestByTrying_11 (fun r_3 hr_3 => ?_)
    subst hr_3
    refine zc_S (As := [.int (iI (u / 343)), .int (iI (v / 343))]) (rest := [.int (iI md)]) (ws := [(fl, .inr (0, [.int (iI C), .int (iI R), .ref pn, .int (iI np)])), (pn, .inl (cI, 49, .inl (aI gn)))]) (n := 2) hx hb (hml.trans hl.1.symm) hts hown hK hP (c_X2_apart l D cI cJ (u / 343) (v / 343) (by omega) (by omega) (by omega) (by omega)) (gd_S q_441 q_442 q_1 q_443) (by decide +kernel) rfl ⟨by simp only [lvl]; omega, by simp only [lvl]; omega⟩ ⟨Nat.zero_le _, Nat.zero_le _⟩ [] rfl rfl (Nat.le_of_ble_eq_true rfl) dX2_fewestByTrying_14 (fun r_4 hr_4 => ?_)
    subst hr_4
    have hap : 0 ≤ apZ u v ∧ apZ u v ≤ 100 := by unfold apZ absZ; (repeat' split) <;> omega
    have hap0 : (absZ (u / 343 / 7 - v / 343 / 7) + absZ (u / 343 % 7 - v / 343 % 7)) = apZ u v := rfl
    refine zv_iadd hx hb dX2_fewestByTrying_17 ?_
    refine lv_iload hx hb dX2_fewestByTrying_18 (lv_at hl 4 rfl) ?_
    refine zv_icmp_le hx hb dX2_fewestByTrying_20 (tgt := 28) (by decide) ⟨by omega, by omega⟩ ⟨by omega, by omega⟩ (fun c_5 => ?_) (fun c_5 => ?_)
    · refine lv_iload_n hx hb dX2_fewestByTrying_28 rfl (lv_at hl 1 rfl) ?_
      refine lv_iload_n hx hb dX2_fewestByTrying_29 rfl (lv_at hl 2 rfl) ?_
      refine zv_icmp_ne hx hb dX2_fewestByTrying_30 (tgt := 35) (by decide) ⟨by omega, by omega⟩ ⟨by omega, by omega⟩ (fun c_6 => ?_) (fun c_6 => ?_)
      · obtain ⟨n, rfl⟩ : ∃ n0, n = n0 + 1 := ⟨n - 1, by omega⟩
        refine lv_iload hx hb dX2_fewestByTrying_35 (lv_at hl 4 rfl) ?_
        refine zv_iconst hx hb dX2_fewestByTrying_37 ?_
        refine zv_iadd hx hb dX2_fewestByTrying_38 ?_
        refine lv_istore (lv' := [(5, .int (iI (mo + 1))), (0, .ref fl), (1, .int (iI u)), (2, .int (iI v)), (3, .int (iI md)), (4, .int (iI mo))]) hx hb dX2_fewestByTrying_39 hl (by decide) rfl (fun ls hl => ?_)
        refine zv_iconst hx hb dX2_fewestByTrying_41 ?_
        refine lv_istore (lv' := [(6, .int (iI 0)), (5, .int (iI (mo + 1))), (0, .ref fl), (1, .int (iI u)), (2, .int (iI v)), (3, .int (iI md)), (4, .int (iI mo))]) hx hb dX2_fewestByTrying_42 hl (by decide) rfl (fun ls hl => ?_)
        refine lv_iload hx hb dX2_fewestByTrying_44 (lv_at hl 0 rfl) ?_
        refine zv_iconst hx hb dX2_fewestByTrying_46 ?_
        refine zv_icmp_ge hx hb dX2_fewestByTrying_47 (tgt := 77) (by decide) ⟨by omega, by omega⟩ ⟨by omega, by omega⟩ (fun c_7 => by exfalso; omega) (fun c_7 => ?_)
        refine lv_aload_n hx hb dX2_fewestByTrying_50 rfl (lv_at hl 2 rfl) ?_
        refine lv_aload_n hx hb dX2_fewestByTrying_51 rfl (lv_at hl 2 rfl) ?_
        refine lv_iload_n hx hb dX2_fewestByTrying_52 rfl (lv_at hl 3 rfl) ?_
        refine lv_iload hx hb dX2_fewestByTrying_53 (lv_at hl 0 rfl) ?_
        refine zc_V (As := [.int (iI u), .int (iI 0)]) (rest := [.ref fl]) (ws := [(fl, .inr (0, [.int (iI C), .int (iI R), .ref pn, .int (iI np)])), (pn, .inl (cI, 49, .inl (aI gn)))]) (n := 2) hx hb (hml.trans hl.1.symm) hts hown hK hP (c_X0_after l D cI cJ fl pn C R np gn N u 0 hF (by omega) (by omega) (by omega) (by omega) (by omega)) (gd_V q_97 q_98 q_99 q_3 q_100) (by decide +kernel) rfl ⟨by simp only [lvl]; omega, by simp only [lvl]; omega⟩ ⟨Nat.zero_le _, Nat.zero_le _⟩ [0, 1] rfl 0 (ci := 0) rfl rfl rfl rfl (Nat.le_of_ble_eq_true rfl) dX2_fewestByTrying_55 (fun r_8 hr_8 => ?_)
        subst hr_8
        refine lv_iload_n hx hb dX2_fewestByTrying_58 rfl (lv_at hl 4 rfl) ?_
        refine lv_iload_n hx hb dX2_fewestByTrying_59 rfl (lv_at hl 5 rfl) ?_
        refine zv_iconst hx hb dX2_fewestByTrying_60 ?_
        refine zv_iadd hx hb dX2_fewestByTrying_61 ?_
        refine lv_iload hx hb dX2_fewestByTrying_62 (lv_at hl 1 rfl) ?_
        refine zv_iconst hx hb dX2_fewestByTrying_64 ?_
        refine zv_isub hx hb dX2_fewestByTrying_65 ?_
        refine zc_S (As := [.ref fl, .int (iI (aftZ C R N u 0)), .int (iI v), .int (iI (md + 1)), .int (iI ((mo + 1) - 1))]) (rest := []) (ws := [(fl, .inr (0, [.int (iI C), .int (iI R), .ref pn, .int (iI np)])), (pn, .inl (cI, 49, .inl (aI gn)))]) (n := 5) hx hb (hml.trans hl.1.symm) hts hown hK hP (ih n (by omega) (aftZ C R N u 0) v (md + 1) (mo + 1 - 1) (aftZ_ok hF ⟨hu0, hu1, hu2⟩) hv (by omega) (by omega) (by omega) (by omega)) (gd_S q_438 q_439 q_1 q_440) (by decide +kernel) rfl ⟨by simp only [lvl]; omega, by simp only [lvl]; omega⟩ ⟨Nat.zero_le _, Nat.zero_le _⟩ [0, 1] rfl rfl (Nat.le_of_ble_eq_true rfl) dX2_fewestByTrying_66 (fun r_9 hr_9 => ?_)
        obtain ⟨f1, rfl⟩ : ∃ f : Int, f = r_9 := ⟨_, rfl⟩
        have g1 := hr_9
        obtain ⟨ga1, -, -, gd1⟩ := id hr_9
        refine lv_istore (lv' := [(5, .int (iI f1)), (6, .int (iI 0)), (0, .ref fl), (1, .int (iI u)), (2, .int (iI v)), (3, .int (iI md)), (4, .int (iI mo))]) hx hb dX2_fewestByTrying_69 hl (by decide) rfl (fun ls hl => ?_)
        refine zv_iinc (k := 1) (lv' := [(6, .int (iI 1)), (5, .int (iI f1)), (0, .ref fl), (1, .int (iI u)), (2, .int (iI v)), (3, .int (iI md)), (4, .int (iI mo))]) hx hb dX2_fewestByTrying_71 hl rfl (by decide) rfl (fun ls hl => ?_)
        refine lv_goto (tgt := 44) hx hb dX2_fewestByTrying_74 (by decide) ?_
        refine lv_iload hx hb dX2_fewestByTrying_44 (lv_at hl 0 rfl) ?_
        refine zv_iconst hx hb dX2_fewestByTrying_46 ?_
        refine zv_icmp_ge hx hb dX2_fewestByTrying_47 (tgt := 77) (by decide) ⟨by omega, by omega⟩ ⟨by omega, by omega⟩ (fun c_10 => by exfalso; omega) (fun c_10 => ?_)
        refine lv_aload_n hx hb dX2_fewestByTrying_50 rfl (lv_at hl 2 rfl) ?_
        refine lv_aload_n hx hb dX2_fewestByTrying_51 rfl (lv_at hl 2 rfl) ?_
        refine lv_iload_n hx hb dX2_fewestByTrying_52 rfl (lv_at hl 3 rfl) ?_
        refine lv_iload hx hb dX2_fewestByTrying_53 (lv_at hl 0 rfl) ?_
        refine zc_V (As := [.int (iI u), .int (iI 1)]) (rest := [.ref fl]) (ws := [(fl, .inr (0, [.int (iI C), .int (iI R), .ref pn, .int (iI np)])), (pn, .inl (cI, 49, .inl (aI gn)))]) (n := 2) hx hb (hml.trans hl.1.symm) hts hown hK hP (c_X0_after l D cI cJ fl pn C R np gn N u 1 hF (by omega) (by omega) (by omega) (by omega) (by omega)) (gd_V q_97 q_98 q_99 q_3 q_100) (by decide +kernel) rfl ⟨by simp only [lvl]; omega, by simp only [lvl]; omega⟩ ⟨Nat.zero_le _, Nat.zero_le _⟩ [0, 1] rfl 0 (ci := 0) rfl rfl rfl rfl (Nat.le_of_ble_eq_true rfl) dX2_fewestByTrying_55 (fun r_11 hr_11 => ?_)
        subst hr_11
        refine lv_iload_n hx hb dX2_fewestByTrying_58 rfl (lv_at hl 4 rfl) ?_
        refine lv_iload_n hx hb dX2_fewestByTrying_59 rfl (lv_at hl 5 rfl) ?_
        refine zv_iconst hx hb dX2_fewestByTrying_60 ?_
        refine zv_iadd hx hb dX2_fewestByTrying_61 ?_
        refine lv_iload hx hb dX2_fewestByTrying_62 (lv_at hl 1 rfl) ?_
        refine zv_iconst hx hb dX2_fewestByTrying_64 ?_
        refine zv_isub hx hb dX2_fewestByTrying_65 ?_
        refine zc_S (As := [.ref fl, .int (iI (aftZ C R N u 1)), .int (iI v), .int (iI (md + 1)), .int (iI (f1 - 1))]) (rest := []) (ws := [(fl, .inr (0, [.int (iI C), .int (iI R), .ref pn, .int (iI np)])), (pn, .inl (cI, 49, .inl (aI gn)))]) (n := 5) hx hb (hml.trans hl.1.symm) hts hown hK hP (ih n (by omega) (aftZ C R N u 1) v (md + 1) (f1 - 1) (aftZ_ok hF ⟨hu0, hu1, hu2⟩) hv (by omega) (by omega) (by omega) (by omega)) (gd_S q_438 q_439 q_1 q_440) (by decide +kernel) rfl ⟨by simp only [lvl]; omega, by simp only [lvl]; omega⟩ ⟨Nat.zero_le _, Nat.zero_le _⟩ [0, 1] rfl rfl (Nat.le_of_ble_eq_true rfl) dX2_fewestByTrying_66 (fun r_12 hr_12 => ?_)
        obtain ⟨f2, rfl⟩ : ∃ f : Int, f = r_12 := ⟨_, rfl⟩
        have g2 := hr_12
        obtain ⟨ga2, -, -, gd2⟩ := id hr_12
        refine lv_istore (lv' := [(5, .int (iI f2)), (6, .int (iI 1)), (0, .ref fl), (1, .int (iI u)), (2, .int (iI v)), (3, .int (iI md)), (4, .int (iI mo))]) hx hb dX2_fewestByTrying_69 hl (by decide) rfl (fun ls hl => ?_)
        refine zv_iinc (k := 1) (lv' := [(6, .int (iI 2)), (5, .int (iI f2)), (0, .ref fl), (1, .int (iI u)), (2, .int (iI v)), (3, .int (iI md)), (4, .int (iI mo))]) hx hb dX2_fewestByTrying_71 hl rfl (by decide) rfl (fun ls hl => ?_)
        refine lv_goto (tgt := 44) hx hb dX2_fewestByTrying_74 (by decide) ?_
        refine lv_iload hx hb dX2_fewestByTrying_44 (lv_at hl 0 rfl) ?_
        refine zv_iconst hx hb dX2_fewestByTrying_46 ?_
        refine zv_icmp_ge hx hb dX2_fewestByTrying_47 (tgt := 77) (by decide) ⟨by omega, by omega⟩ ⟨by omega, by omega⟩ (fun c_13 => by exfalso; omega) (fun c_13 => ?_)
        refine lv_aload_n hx hb dX2_fewestByTrying_50 rfl (lv_at hl 2 rfl) ?_
        refine lv_aload_n hx hb dX2_fewestByTrying_51 rfl (lv_at hl 2 rfl) ?_
        refine lv_iload_n hx hb dX2_fewestByTrying_52 rfl (lv_at hl 3 rfl) ?_
        refine lv_iload hx hb dX2_fewestByTrying_53 (lv_at hl 0 rfl) ?_
        refine zc_V (As := [.int (iI u), .int (iI 2)]) (rest := [.ref fl]) (ws := [(fl, .inr (0, [.int (iI C), .int (iI R), .ref pn, .int (iI np)])), (pn, .inl (cI, 49, .inl (aI gn)))]) (n := 2) hx hb (hml.trans hl.1.symm) hts hown hK hP (c_X0_after l D cI cJ fl pn C R np gn N u 2 hF (by omega) (by omega) (by omega) (by omega) (by omega)) (gd_V q_97 q_98 q_99 q_3 q_100) (by decide +kernel) rfl ⟨by simp only [lvl]; omega, by simp only [lvl]; omega⟩ ⟨Nat.zero_le _, Nat.zero_le _⟩ [0, 1] rfl 0 (ci := 0) rfl rfl rfl rfl (Nat.le_of_ble_eq_true rfl) dX2_fewestByTrying_55 (fun r_14 hr_14 => ?_)
        subst hr_14
        refine lv_iload_n hx hb dX2_fewestByTrying_58 rfl (lv_at hl 4 rfl) ?_
        refine lv_iload_n hx hb dX2_fewestByTrying_59 rfl (lv_at hl 5 rfl) ?_
        refine zv_iconst hx hb dX2_fewestByTrying_60 ?_
        refine zv_iadd hx hb dX2_fewestByTrying_61 ?_
        refine lv_iload hx hb dX2_fewestByTrying_62 (lv_at hl 1 rfl) ?_
        refine zv_iconst hx hb dX2_fewestByTrying_64 ?_
        refine zv_isub hx hb dX2_fewestByTrying_65 ?_
        refine zc_S (As := [.ref fl, .int (iI (aftZ C R N u 2)), .int (iI v), .int (iI (md + 1)), .int (iI (f2 - 1))]) (rest := []) (ws := [(fl, .inr (0, [.int (iI C), .int (iI R), .ref pn, .int (iI np)])), (pn, .inl (cI, 49, .inl (aI gn)))]) (n := 5) hx hb (hml.trans hl.1.symm) hts hown hK hP (ih n (by omega) (aftZ C R N u 2) v (md + 1) (f2 - 1) (aftZ_ok hF ⟨hu0, hu1, hu2⟩) hv (by omega) (by omega) (by omega) (by omega)) (gd_S q_438 q_439 q_1 q_440) (by decide +kernel) rfl ⟨by simp only [lvl]; omega, by simp only [lvl]; omega⟩ ⟨Nat.zero_le _, Nat.zero_le _⟩ [0, 1] rfl rfl (Nat.le_of_ble_eq_true rfl) dX2_fewestByTrying_66 (fun r_15 hr_15 => ?_)
        obtain ⟨f3, rfl⟩ : ∃ f : Int, f = r_15 := ⟨_, rfl⟩
        have g3 := hr_15
        obtain ⟨ga3, -, -, gd3⟩ := id hr_15
        refine lv_istore (lv' := [(5, .int (iI f3)), (6, .int (iI 2)), (0, .ref fl), (1, .int (iI u)), (2, .int (iI v)), (3, .int (iI md)), (4, .int (iI mo))]) hx hb dX2_fewestByTrying_69 hl (by decide) rfl (fun ls hl => ?_)
        refine zv_iinc (k := 1) (lv' := [(6, .int (iI 3)), (5, .int (iI f3)), (0, .ref fl), (1, .int (iI u)), (2, .int (iI v)), (3, .int (iI md)), (4, .int (iI mo))]) hx hb dX2_fewestByTrying_71 hl rfl (by decide) rfl (fun ls hl => ?_)
        refine lv_goto (tgt := 44) hx hb dX2_fewestByTrying_74 (by decide) ?_
        refine lv_iload hx hb dX2_fewestByTrying_44 (lv_at hl 0 rfl) ?_
        refine zv_iconst hx hb dX2_fewestByTrying_46 ?_
        refine zv_icmp_ge hx hb dX2_fewestByTrying_47 (tgt := 77) (by decide) ⟨by omega, by omega⟩ ⟨by omega, by omega⟩ (fun c_16 => by exfalso; omega) (fun c_16 => ?_)
        refine lv_aload_n hx hb dX2_fewestByTrying_50 rfl (lv_at hl 2 rfl) ?_
        refine lv_aload_n hx hb dX2_fewestByTrying_51 rfl (lv_at hl 2 rfl) ?_
        refine lv_iload_n hx hb dX2_fewestByTrying_52 rfl (lv_at hl 3 rfl) ?_
        refine lv_iload hx hb dX2_fewestByTrying_53 (lv_at hl 0 rfl) ?_
        refine zc_V (As := [.int (iI u), .int (iI 3)]) (rest := [.ref fl]) (ws := [(fl, .inr (0, [.int (iI C), .int (iI R), .ref pn, .int (iI np)])), (pn, .inl (cI, 49, .inl (aI gn)))]) (n := 2) hx hb (hml.trans hl.1.symm) hts hown hK hP (c_X0_after l D cI cJ fl pn C R np gn N u 3 hF (by omega) (by omega) (by omega) (by omega) (by omega)) (gd_V q_97 q_98 q_99 q_3 q_100) (by decide +kernel) rfl ⟨by simp only [lvl]; omega, by simp only [lvl]; omega⟩ ⟨Nat.zero_le _, Nat.zero_le _⟩ [0, 1] rfl 0 (ci := 0) rfl rfl rfl rfl (Nat.le_of_ble_eq_true rfl) dX2_fewestByTrying_55 (fun r_17 hr_17 => ?_)
        subst hr_17
        refine lv_iload_n hx hb dX2_fewestByTrying_58 rfl (lv_at hl 4 rfl) ?_
        refine lv_iload_n hx hb dX2_fewestByTrying_59 rfl (lv_at hl 5 rfl) ?_
        refine zv_iconst hx hb dX2_fewestByTrying_60 ?_
        refine zv_iadd hx hb dX2_fewestByTrying_61 ?_
        refine lv_iload hx hb dX2_fewestByTrying_62 (lv_at hl 1 rfl) ?_
        refine zv_iconst hx hb dX2_fewestByTrying_64 ?_
        refine zv_isub hx hb dX2_fewestByTrying_65 ?_
        refine zc_S (As := [.ref fl, .int (iI (aftZ C R N u 3)), .int (iI v), .int (iI (md + 1)), .int (iI (f3 - 1))]) (rest := []) (ws := [(fl, .inr (0, [.int (iI C), .int (iI R), .ref pn, .int (iI np)])), (pn, .inl (cI, 49, .inl (aI gn)))]) (n := 5) hx hb (hml.trans hl.1.symm) hts hown hK hP (ih n (by omega) (aftZ C R N u 3) v (md + 1) (f3 - 1) (aftZ_ok hF ⟨hu0, hu1, hu2⟩) hv (by omega) (by omega) (by omega) (by omega)) (gd_S q_438 q_439 q_1 q_440) (by decide +kernel) rfl ⟨by simp only [lvl]; omega, by simp only [lvl]; omega⟩ ⟨Nat.zero_le _, Nat.zero_le _⟩ [0, 1] rfl rfl (Nat.le_of_ble_eq_true rfl) dX2_fewestByTrying_66 (fun r_18 hr_18 => ?_)
        obtain ⟨f4, rfl⟩ : ∃ f : Int, f = r_18 := ⟨_, rfl⟩
        have g4 := hr_18
        obtain ⟨ga4, -, -, gd4⟩ := id hr_18
        refine lv_istore (lv' := [(5, .int (iI f4)), (6, .int (iI 3)), (0, .ref fl), (1, .int (iI u)), (2, .int (iI v)), (3, .int (iI md)), (4, .int (iI mo))]) hx hb dX2_fewestByTrying_69 hl (by decide) rfl (fun ls hl => ?_)
        refine zv_iinc (k := 1) (lv' := [(6, .int (iI 4)), (5, .int (iI f4)), (0, .ref fl), (1, .int (iI u)), (2, .int (iI v)), (3, .int (iI md)), (4, .int (iI mo))]) hx hb dX2_fewestByTrying_71 hl rfl (by decide) rfl (fun ls hl => ?_)
        refine lv_goto (tgt := 44) hx hb dX2_fewestByTrying_74 (by decide) ?_
        refine lv_iload hx hb dX2_fewestByTrying_44 (lv_at hl 0 rfl) ?_
        refine zv_iconst hx hb dX2_fewestByTrying_46 ?_
        refine zv_icmp_ge hx hb dX2_fewestByTrying_47 (tgt := 77) (by decide) ⟨by omega, by omega⟩ ⟨by omega, by omega⟩ (fun c_19 => ?_) (fun c_19 => by exfalso; omega)
        refine lv_iload hx hb dX2_fewestByTrying_77 (lv_at hl 1 rfl) ?_
        exact PM_iret hx hb hr hlk dX2_fewestByTrying_79 (by first | exact FW_none (by assumption) | exact FW_far hF ⟨hu0, hu1, hu2⟩ (by omega) | exact FW_here (by assumption) (by omega) (by omega) | exact FW_4 (by omega) (by assumption) g1 g2 g3 g4 (by omega))
      · refine lv_iload_n hx hb dX2_fewestByTrying_33 rfl (lv_at hl 3 rfl) ?_
        exact PM_iret hx hb hr hlk dX2_fewestByTrying_34 (by first | exact FW_none (by assumption) | exact FW_far hF ⟨hu0, hu1, hu2⟩ (by omega) | exact FW_here (by assumption) (by omega) (by omega) | exact FW_4 (by omega) (by assumption) g1 g2 g3 g4 (by omega))
    · refine lv_iload hx hb dX2_fewestByTrying_23 (lv_at hl 4 rfl) ?_
      refine zv_iconst hx hb dX2_fewestByTrying_25 ?_
      refine zv_iadd hx hb dX2_fewestByTrying_26 ?_
      exact PM_iret hx hb hr hlk dX2_fewestByTrying_27 (by first | exact FW_none (by assumption) | exact FW_far hF ⟨hu0, hu1, hu2⟩ (by omega) | exact FW_here (by assumption) (by omega) (by omega) | exact FW_4 (by omega) (by assumption) g1 g2 g3 g4 (by omega))
end
section
/-! the reference's pillars: columns and rows by number -/
def MdOK (C R np : Int) (N : Int → Int) (gc gr : Nat → Int) : Prop := 3 ≤ C ∧ C ≤ 7 ∧ 3 ≤ R ∧ R ≤ 7 ∧ 0 ≤ np ∧ np ≤ 3 ∧ (∀ k : Nat, (k : Int) < np → 0 ≤ gc k ∧ gc k < C ∧ 0 ≤ gr k ∧ gr k < R ∧ N (gc k * 7 + gr k) = k) ∧ ∀ z : Int, N z = -1 ∨ (0 ≤ N z ∧ N z < np ∧ z = gc (N z).toNat * 7 + gr (N z).toNat)
theorem MdOK.at {C R np : Int} {N : Int → Int} {gc gr : Nat → Int} (h : MdOK C R np N gc gr) {i : Int} (h0 : 0 ≤ i) (h1 : i < np) : 0 ≤ gc i.toNat ∧ gc i.toNat < C ∧ 0 ≤ gr i.toNat ∧ gr i.toNat < R ∧ N (gc i.toNat * 7 + gr i.toNat) = i := by
  have h2 := h.2.2.2.2.2.2.1 i.toNat (by rw [Int.toNat_of_nonneg h0]; exact h1)
  rw [Int.toNat_of_nonneg h0] at h2
  exact h2
theorem MdOK.of {C R np : Int} {N : Int → Int} {gc gr : Nat → Int} (h : MdOK C R np N gc gr) (z : Int) : N z = -1 ∨ (0 ≤ N z ∧ N z < np ∧ z = gc (N z).toNat * 7 + gr (N z).toNat) := h.2.2.2.2.2.2.2 z
theorem MdOK.N2 {C R np : Int} {N : Int → Int} {gc gr : Nat → Int} (h : MdOK C R np N gc gr) (z : Int) : -1 ≤ N z ∧ N z < np := by
  have h5 := h.2.2.2.2.1
  rcases h.of z with h1 | h1 <;> omega
theorem MdOK.Fl {C R np : Int} {N : Int → Int} {gc gr : Nat → Int} (h : MdOK C R np N gc gr) : FlOK C R np N (fun k => N (k : Int)) := by
  obtain ⟨h1, h2, h3, h4, h5, h6, h7, h8⟩ := id h
  refine ⟨h1, h2, h3, h4, h5, h6, fun k _ => rfl, fun z => ?_⟩
  rcases h8 z with g | ⟨g1, g2, g3⟩
  · exact Or.inl g
  · have := h.at g1 g2
    exact Or.inr (by omega)
theorem wj_m1 {w k : Int} (hw : 0 ≤ w) (hk : 0 ≤ k) (hk5 : k ≤ 5) (h : w % 7 ≤ 0) : 7 * w + k + 1 = wjZ w k := by
  have := oppZ_b hk hk5
  unfold wjZ
  rw [if_neg (by omega)]
  omega
theorem wj_m2 {w k : Int} (hw : 0 ≤ w) (hk : 0 ≤ k) (hk5 : k ≤ 5) (h : ¬ w % 7 ≤ 0) (h2 : oppZ (w % 7 - 1) = k) : w / 7 = wjZ w k := by
  unfold wjZ
  rw [if_pos (by rw [← h2, oppZ_opp (by omega) (by omega)])]
theorem wj_m3 {w k : Int} (hw : 0 ≤ w) (hk : 0 ≤ k) (hk5 : k ≤ 5) (h : ¬ w % 7 ≤ 0) (h2 : ¬ oppZ (w % 7 - 1) = k) : 7 * w + k + 1 = wjZ w k := by
  unfold wjZ
  rw [if_neg (fun z => h2 (by rw [z, oppZ_opp hk hk5]))]
  omega
/-- the search for the uppermost pillar below row b in column a, i of them looked at -/
def BelI (gc gr : Nat → Int) (a b i x : Int) : Prop := (x = -1 ∧ ∀ j : Nat, (j : Int) < i → ¬ (gc j = a ∧ b < gr j)) ∨ (0 ≤ x ∧ x < i ∧ gc x.toNat = a ∧ b < gr x.toNat ∧ ∀ j : Nat, (j : Int) < i → gc j = a → b < gr j → gr x.toNat ≤ gr j)
theorem BelI.z {gc gr : Nat → Int} {a b : Int} : BelI gc gr a b 0 (-1) := Or.inl ⟨rfl, fun j h => absurd h (by omega)⟩
theorem BelI.b {gc gr : Nat → Int} {a b i x : Int} (h : BelI gc gr a b i x) : x = -1 ∨ (0 ≤ x ∧ x < i) := by
  rcases h with ⟨h, -⟩ | ⟨h1, h2, -⟩
  · exact Or.inl h
  · exact Or.inr ⟨h1, h2⟩
theorem jlt {i : Int} (h0 : 0 ≤ i) {j : Nat} (h : (j : Int) < i + 1) : (j : Int) < i ∨ j = i.toNat := by omega
theorem BelI.no {gc gr : Nat → Int} {a b i x : Int} (h : BelI gc gr a b i x) (h0 : 0 ≤ i) (hn : ¬ (gc i.toNat = a ∧ b < gr i.toNat)) : BelI gc gr a b (i + 1) x := by
  rcases h with ⟨h1, h2⟩ | ⟨h1, h2, h3, h4, h5⟩
  · refine Or.inl ⟨h1, fun j hj => ?_⟩
    rcases jlt h0 hj with g | rfl
    · exact h2 j g
    · exact hn
  · refine Or.inr ⟨h1, by omega, h3, h4, fun j hj e1 e2 => ?_⟩
    rcases jlt h0 hj with g | rfl
    · exact h5 j g e1 e2
    · exact absurd ⟨e1, e2⟩ hn
theorem BelI.new {gc gr : Nat → Int} {a b i x : Int} (h : BelI gc gr a b i x) (h0 : 0 ≤ i) (hy1 : gc i.toNat = a) (hy2 : b < gr i.toNat) (hx : x = -1 ∨ gr i.toNat < gr x.toNat) : BelI gc gr a b (i + 1) i := by
  refine Or.inr ⟨h0, by omega, hy1, hy2, fun j hj e1 e2 => ?_⟩
  rcases jlt h0 hj with g | rfl
  · rcases h with ⟨h1, h2⟩ | ⟨h1, h2, h3, h4, h5⟩
    · exact absurd ⟨e1, e2⟩ (h2 j g)
    · have := h5 j g e1 e2
      rcases hx with hx | hx <;> omega
  · exact Int.le_refl _
theorem BelI.old {gc gr : Nat → Int} {a b i x : Int} (h : BelI gc gr a b i x) (h0 : 0 ≤ i) (hx : ¬ x = -1) (hy : ¬ gr i.toNat < gr x.toNat) : BelI gc gr a b (i + 1) x := by
  rcases h with ⟨h1, h2⟩ | ⟨h1, h2, h3, h4, h5⟩
  · exact absurd h1 hx
  · refine Or.inr ⟨h1, by omega, h3, h4, fun j hj e1 e2 => ?_⟩
    rcases jlt h0 hj with g | rfl
    · exact h5 j g e1 e2
    · omega
def AbvI (gc gr : Nat → Int) (a b v i x : Int) : Prop := (x = -1 ∧ ∀ j : Nat, (j : Int) < i → ¬ (gc j = a ∧ b < gr j ∧ gr j < v)) ∨ (0 ≤ x ∧ x < i ∧ gc x.toNat = a ∧ b < gr x.toNat ∧ gr x.toNat < v ∧ ∀ j : Nat, (j : Int) < i → gc j = a → b < gr j → gr j < v → gr j ≤ gr x.toNat)
theorem AbvI.z {gc gr : Nat → Int} {a b v : Int} : AbvI gc gr a b v 0 (-1) := Or.inl ⟨rfl, fun j h => absurd h (by omega)⟩
theorem AbvI.b {gc gr : Nat → Int} {a b v i x : Int} (h : AbvI gc gr a b v i x) : x = -1 ∨ (0 ≤ x ∧ x < i) := by
  rcases h with ⟨h, -⟩ | ⟨h1, h2, -⟩
  · exact Or.inl h
  · exact Or.inr ⟨h1, h2⟩
theorem AbvI.no {gc gr : Nat → Int} {a b v i x : Int} (h : AbvI gc gr a b v i x) (h0 : 0 ≤ i) (hn : ¬ (gc i.toNat = a ∧ b < gr i.toNat ∧ gr i.toNat < v)) : AbvI gc gr a b v (i + 1) x := by
  rcases h with ⟨h1, h2⟩ | ⟨h1, h2, h3, h4, h6, h5⟩
  · refine Or.inl ⟨h1, fun j hj => ?_⟩
    rcases jlt h0 hj with g | rfl
    · exact h2 j g
    · exact hn
  · refine Or.inr ⟨h1, by omega, h3, h4, h6, fun j hj e1 e2 e3 => ?_⟩
    rcases jlt h0 hj with g | rfl
    · exact h5 j g e1 e2 e3
    · exact absurd ⟨e1, e2, e3⟩ hn
theorem AbvI.new {gc gr : Nat → Int} {a b v i x : Int} (h : AbvI gc gr a b v i x) (h0 : 0 ≤ i) (hy1 : gc i.toNat = a) (hy2 : b < gr i.toNat) (hy3 : gr i.toNat < v) (hx : x = -1 ∨ gr x.toNat < gr i.toNat) : AbvI gc gr a b v (i + 1) i := by
  refine Or.inr ⟨h0, by omega, hy1, hy2, hy3, fun j hj e1 e2 e3 => ?_⟩
  rcases jlt h0 hj with g | rfl
  · rcases h with ⟨h1, h2⟩ | ⟨h1, h2, h3, h4, h6, h5⟩
    · exact absurd ⟨e1, e2, e3⟩ (h2 j g)
    · have := h5 j g e1 e2 e3
      rcases hx with hx | hx <;> omega
  · exact Int.le_refl _
theorem AbvI.old {gc gr : Nat → Int} {a b v i x : Int} (h : AbvI gc gr a b v i x) (h0 : 0 ≤ i) (hx : ¬ x = -1) (hy : ¬ gr x.toNat < gr i.toNat) : AbvI gc gr a b v (i + 1) x := by
  rcases h with ⟨h1, h2⟩ | ⟨h1, h2, h3, h4, h6, h5⟩
  · exact absurd h1 hx
  · refine Or.inr ⟨h1, by omega, h3, h4, h6, fun j hj e1 e2 e3 => ?_⟩
    rcases jlt h0 hj with g | rfl
    · exact h5 j g e1 e2 e3
    · omega
/-- what is found: the next pillar below row b (before row v) in column a, by the squares -/
def BelP (N : Int → Int) (gr : Nat → Int) (R np a b x : Int) : Prop := (x = -1 ∧ ∀ y, b < y → y < R → N (a * 7 + y) = -1) ∨ (0 ≤ x ∧ x < np ∧ ∃ y, b < y ∧ y < R ∧ N (a * 7 + y) = x ∧ gr x.toNat = y ∧ ∀ y', b < y' → y' < y → N (a * 7 + y') = -1)
theorem BelI.p {C R np : Int} {N : Int → Int} {gc gr : Nat → Int} (hM : MdOK C R np N gc gr) {a b x : Int} (ha0 : 0 ≤ a) (ha : a < C) (hb : 0 ≤ b) (h : BelI gc gr a b np x) : BelP N gr R np a b x := by
  have hR := hM.2.2.2.1
  have key : ∀ y, 0 ≤ y → y < R → N (a * 7 + y) ≠ -1 → ∃ j : Nat, (j : Int) < np ∧ gc j = a ∧ gr j = y := by
    intro y y0 y1 hy
    rcases hM.of (a * 7 + y) with g | ⟨g1, g2, g3⟩
    · exact absurd g hy
    · have g4 := hM.at g1 g2
      exact ⟨(N (a * 7 + y)).toNat, by omega, by omega, by omega⟩
  rcases h with ⟨h1, h2⟩ | ⟨h1, h2, h3, h4, h5⟩
  · refine Or.inl ⟨h1, fun y y0 y1 => ?_⟩
    by_cases hy : N (a * 7 + y) = -1
    · exact hy
    · obtain ⟨j, j1, j2, j3⟩ := key y (by omega) y1 hy
      exact absurd ⟨j2, by omega⟩ (h2 j j1)
  · have g4 := hM.at h1 h2
    rw [h3] at g4
    refine Or.inr ⟨h1, h2, gr x.toNat, h4, g4.2.2.2.1, g4.2.2.2.2, rfl, fun y y0 y1 => ?_⟩
    by_cases hy : N (a * 7 + y) = -1
    · exact hy
    · obtain ⟨j, j1, j2, j3⟩ := key y (by omega) (by omega) hy
      have := h5 j j1 j2 (by omega)
      omega
def AbvP (N : Int → Int) (gr : Nat → Int) (np a b v x : Int) : Prop := (x = -1 ∧ ∀ y, b < y → y < v → N (a * 7 + y) = -1) ∨ (0 ≤ x ∧ x < np ∧ ∃ y, b < y ∧ y < v ∧ N (a * 7 + y) = x ∧ gr x.toNat = y ∧ ∀ y', y < y' → y' < v → N (a * 7 + y') = -1)
theorem AbvI.p {C R np : Int} {N : Int → Int} {gc gr : Nat → Int} (hM : MdOK C R np N gc gr) {a b v x : Int} (ha0 : 0 ≤ a) (ha : a < C) (hb : 0 ≤ b) (hv : v ≤ 7) (h : AbvI gc gr a b v np x) : AbvP N gr np a b v x := by
  have hR := hM.2.2.2.1
  have key : ∀ y, 0 ≤ y → y < 7 → N (a * 7 + y) ≠ -1 → ∃ j : Nat, (j : Int) < np ∧ gc j = a ∧ gr j = y := by
    intro y y0 y1 hy
    rcases hM.of (a * 7 + y) with g | ⟨g1, g2, g3⟩
    · exact absurd g hy
    · have g4 := hM.at g1 g2
      exact ⟨(N (a * 7 + y)).toNat, by omega, by omega, by omega⟩
  rcases h with ⟨h1, h2⟩ | ⟨h1, h2, h3, h4, h6, h5⟩
  · refine Or.inl ⟨h1, fun y y0 y1 => ?_⟩
    by_cases hy : N (a * 7 + y) = -1
    · exact hy
    · obtain ⟨j, j1, j2, j3⟩ := key y (by omega) (by omega) hy
      exact absurd ⟨j2, by omega, by omega⟩ (h2 j j1)
  · have g4 := hM.at h1 h2
    rw [h3] at g4
    refine Or.inr ⟨h1, h2, gr x.toNat, h4, h6, g4.2.2.2.2, rfl, fun y y0 y1 => ?_⟩
    by_cases hy : N (a * 7 + y) = -1
    · exact hy
    · obtain ⟨j, j1, j2, j3⟩ := key y (by omega) (by omega) hy
      have := h5 j j1 j2 (by omega) (by omega)
      omega
/-- rows without pillars change no word -/
theorem wRn_skip {N : Int → Int} {c b w : Int} {n : Nat} : ∀ k : Nat, (∀ y : Int, b + n ≤ y → y < b + n + k → N (c * 7 + y) = -1) → wRn N c (n + k) b w = wRn N c n b w := by
  intro k
  induction k with
  | zero => intro _; rfl
  | succ k ih =>
    intro h
    show stR N c (b + ((n + k : Nat) : Int)) (wRn N c (n + k) b w) = wRn N c n b w
    rw [ih (fun y y0 y1 => h y y0 (by omega))]
    unfold stR
    rw [if_pos (h _ (by omega) (by omega))]
theorem wRn_to {N : Int → Int} {a b u y w : Int} (hu : b ≤ u) (huy : u < y) (hn : ∀ y', u < y' → y' < y → N (a * 7 + y') = -1) (hy : N (a * 7 + y) ≠ -1) : wRn N a (y - b).toNat (b + 1) w = wjZ (wRn N a (u - b).toNat (b + 1) w) (2 * N (a * 7 + y)) := by
  rw [show (y - b).toNat = (u - b).toNat + (y - 1 - u).toNat + 1 by omega]
  show stR N a (b + 1 + (((u - b).toNat + (y - 1 - u).toNat : Nat) : Int)) (wRn N a ((u - b).toNat + (y - 1 - u).toNat) (b + 1) w) = _
  rw [wRn_skip (y - 1 - u).toNat (fun y' h1 h2 => hn y' (by omega) (by omega)), show b + 1 + (((u - b).toNat + (y - 1 - u).toNat : Nat) : Int) = y by omega]
  unfold stR
  rw [if_neg hy]
theorem wRn_end {N : Int → Int} {a b u R w : Int} (hu : b ≤ u) (hR : u < R) (hn : ∀ y', u < y' → y' < R → N (a * 7 + y') = -1) : wRZ N R a b w = wRn N a (u - b).toNat (b + 1) w := by
  unfold wRZ
  rw [show (R - 1 - b).toNat = (u - b).toNat + (R - 1 - u).toNat by omega]
  exact wRn_skip _ (fun y' h1 h2 => hn y' (by omega) (by omega))
theorem wLn_skip {N : Int → Int} {c b : Int} : ∀ (k n : Nat) (w : Int), (∀ y : Int, b + n ≤ y → y < b + n + k → N (c * 7 + y) = -1) → wLn N c (n + k) b w = wLn N c n b w := by
  intro k
  induction k with
  | zero => intro n w _; rfl
  | succ k ih =>
    intro n w h
    show wLn N c (n + k) b (stL N c (b + ((n + k : Nat) : Int)) w) = wLn N c n b w
    rw [show stL N c (b + ((n + k : Nat) : Int)) w = w by unfold stL; rw [if_pos (h _ (by omega) (by omega))]]
    exact ih n w (fun y y0 y1 => h y y0 (by omega))
/-- v: rows from v on are done -/
theorem wLn_to {N : Int → Int} {a b v y w : Int} (hy0 : b < y) (hyv : y < v) (hn : ∀ y', y < y' → y' < v → N (a * 7 + y') = -1) (hy : N (a * 7 + y) ≠ -1) : wLn N a (v - 1 - b).toNat (b + 1) w = wLn N a (y - 1 - b).toNat (b + 1) (wjZ w (oppZ (2 * N (a * 7 + y)))) := by
  rw [show (v - 1 - b).toNat = (y - b).toNat + (v - 1 - y).toNat by omega, wLn_skip _ _ _ (fun y' h1 h2 => hn y' (by omega) (by omega)), show (y - b).toNat = (y - 1 - b).toNat + 1 by omega]
  show wLn N a (y - 1 - b).toNat (b + 1) (stL N a (b + 1 + (((y - 1 - b).toNat : Nat) : Int)) w) = _
  rw [show b + 1 + (((y - 1 - b).toNat : Nat) : Int) = y by omega]
  unfold stL
  rw [if_neg hy]
theorem wLn_end {N : Int → Int} {a b v w : Int} (hn : ∀ y', b < y' → y' < v → N (a * 7 + y') = -1) : wLn N a (v - 1 - b).toNat (b + 1) w = w := by
  have h := wLn_skip (N := N) (c := a) (b := b + 1) (v - 1 - b).toNat 0 w (fun y' h1 h2 => hn y' (by omega) (by omega))
  rw [Nat.zero_add] at h
  exact h
theorem wLZ_7 {C R np : Int} {N : Int → Int} {gc gr : Nat → Int} (hM : MdOK C R np N gc gr) {a b w : Int} (ha0 : 0 ≤ a) (hb : b < R) (hb0 : 0 ≤ b) : wLn N a (7 - 1 - b).toNat (b + 1) w = wLZ N R a b w := by
  have hR := hM.2.2.2.1
  unfold wLZ
  rw [show (7 - 1 - b).toNat = (R - 1 - b).toNat + (7 - R).toNat by omega]
  refine wLn_skip _ _ _ (fun y h1 h2 => ?_)
  rcases hM.of (a * 7 + y) with g | ⟨g1, g2, g3⟩
  · exact g
  · have := hM.at g1 g2
    omega
theorem pw7_mono {i j : Nat} (h : i ≤ j) : pw7 i ≤ pw7 j ∧ 0 < pw7 i := by
  induction h with
  | refl =>
    refine ⟨Int.le_refl _, ?_⟩
    induction i with
    | zero => decide
    | succ i ih => show 0 < 7 * pw7 i; omega
  | step h ih => exact ⟨by show pw7 i ≤ 7 * pw7 _; omega, ih.2⟩
/-- the reference numbers a place by 343 * (7 * row + column) + word -/
def tauZ (z : Int) : Int := (z / 343 % 7 * 7 + z / 343 / 7) * 343 + z % 343
def tM (x : Int) : Int := if x = -1 then -1 else tauZ x
theorem tauZ_of {z : Int} (h0 : 0 ≤ z) (h1 : z < 16807) : 0 ≤ tauZ z ∧ tauZ z < 16807 ∧ tauZ z / 343 / 7 = z / 343 % 7 ∧ tauZ z / 343 % 7 = z / 343 / 7 ∧ tauZ z % 343 = z % 343 ∧ tauZ z / 343 = z / 343 % 7 * 7 + z / 343 / 7 := by
  unfold tauZ
  omega
theorem tauZ_tauZ {z : Int} (h0 : 0 ≤ z) (h1 : z < 16807) : tauZ (tauZ z) = z := by
  obtain ⟨-, -, e1, e2, e3, -⟩ := tauZ_of h0 h1
  show (tauZ z / 343 % 7 * 7 + tauZ z / 343 / 7) * 343 + tauZ z % 343 = z
  rw [e1, e2, e3]
  omega
theorem tM_pl {C R : Int} {N : Int → Int} {a b w : Int} (hC : C ≤ 7) (hR : R ≤ 7) (hw : 0 ≤ w) : tM (plZ C R N a b w) = if w < 343 ∧ 0 ≤ a ∧ a < C ∧ 0 ≤ b ∧ b < R ∧ N (a * 7 + b) = -1 then 343 * (7 * b + a) + w else -1 := by
  unfold plZ
  split
  · rename_i h
    obtain ⟨h1, h2, h3, h4, h5, h6⟩ := h
    unfold tM tauZ
    rw [if_neg (by omega)]
    omega
  · rfl
end
section
set_option maxRecDepth 100000 in
set_option maxHeartbeats 4000000 in
theorem c_X3_bounded (l : Launch) (D : va_G) (cI cJ : ClassId) (a b d : Int) (ha : InR a) (hb : InR b) (hd : InR d) : PM l yX3_bounded (.code yX3_bounded cX3_bounded 3 (some .int)) 0 [.int (iI a), .int (iI b), .int (iI d)] D cI cJ [] (fun r => r = (if a < b then b else if d < a then d else a)) := by
  obtain ⟨ha1, ha2⟩ := ha
  obtain ⟨hb1, hb2⟩ := hb
  obtain ⟨hd1, hd2⟩ := hd
  refine PM_of (by decide) rfl (Nat.le_of_ble_eq_true rfl) (fun p e s m below meth c ls hx hb hr hts hown hlk hml hK hP hl => ?_)
  have hl : lv_has ls 3 [(0, .int (iI a)), (1, .int (iI b)), (2, .int (iI d))] := hl
  refine lv_iload_n hx hb dX3_bounded_0 rfl (lv_at hl 0 rfl) ?_
  refine lv_iload_n hx hb dX3_bounded_1 rfl (lv_at hl 1 rfl) ?_
  refine zv_icmp_ge hx hb dX3_bounded_2 (tgt := 9) (by decide) ⟨by omega, by omega⟩ ⟨by omega, by omega⟩ (fun c_1 => ?_) (fun c_1 => ?_)
  · refine lv_iload_n hx hb dX3_bounded_9 rfl (lv_at hl 0 rfl) ?_
    refine lv_iload_n hx hb dX3_bounded_10 rfl (lv_at hl 2 rfl) ?_
    refine zv_icmp_le hx hb dX3_bounded_11 (tgt := 18) (by decide) ⟨by omega, by omega⟩ ⟨by omega, by omega⟩ (fun c_2 => ?_) (fun c_2 => ?_)
    · refine lv_iload_n hx hb dX3_bounded_18 rfl (lv_at hl 0 rfl) ?_
      exact PM_iret hx hb hr hlk dX3_bounded_19 (by (repeat' split) <;> omega)
    · refine lv_iload_n hx hb dX3_bounded_14 rfl (lv_at hl 2 rfl) ?_
      refine lv_goto (tgt := 19) hx hb dX3_bounded_15 (by decide) ?_
      exact PM_iret hx hb hr hlk dX3_bounded_19 (by (repeat' split) <;> omega)
  · refine lv_iload_n hx hb dX3_bounded_5 rfl (lv_at hl 1 rfl) ?_
    refine lv_goto (tgt := 19) hx hb dX3_bounded_6 (by decide) ?_
    exact PM_iret hx hb hr hlk dX3_bounded_19 (by (repeat' split) <;> omega)
set_option maxRecDepth 100000 in
set_option maxHeartbeats 4000000 in
theorem c_X3_in (l : Launch) (D : va_G) (cI cJ : ClassId) (a b d : Int) (ha : InR a) (hb : InR b) (hd : InR d) : PM l yX3_in (.code yX3_in cX3_in 3 (some .boolean)) 0 [.int (iI a), .int (iI b), .int (iI d)] D cI cJ [] (fun r => (r = 1 ∧ (b ≤ a ∧ a ≤ d)) ∨ (r = 0 ∧ ¬ (b ≤ a ∧ a ≤ d))) := by
  obtain ⟨ha1, ha2⟩ := ha
  obtain ⟨hb1, hb2⟩ := hb
  obtain ⟨hd1, hd2⟩ := hd
  refine PM_of (by decide) rfl (Nat.le_of_ble_eq_true rfl) (fun p e s m below meth c ls hx hb hr hts hown hlk hml hK hP hl => ?_)
  have hl : lv_has ls 3 [(0, .int (iI a)), (1, .int (iI b)), (2, .int (iI d))] := hl
  refine lv_iload_n hx hb dX3_in_0 rfl (lv_at hl 0 rfl) ?_
  refine lv_iload_n hx hb dX3_in_1 rfl (lv_at hl 1 rfl) ?_
  refine zv_icmp_lt hx hb dX3_in_2 (tgt := 14) (by decide) ⟨by omega, by omega⟩ ⟨by omega, by omega⟩ (fun c_1 => ?_) (fun c_1 => ?_)
  · refine zv_iconst hx hb dX3_in_14 ?_
    exact PM_zret hx hb hr hlk dX3_in_15 (by first | rfl | decide) (by omega)
  · refine lv_iload_n hx hb dX3_in_5 rfl (lv_at hl 0 rfl) ?_
    refine lv_iload_n hx hb dX3_in_6 rfl (lv_at hl 2 rfl) ?_
    refine zv_icmp_gt hx hb dX3_in_7 (tgt := 14) (by decide) ⟨by omega, by omega⟩ ⟨by omega, by omega⟩ (fun c_2 => ?_) (fun c_2 => ?_)
    · refine zv_iconst hx hb dX3_in_14 ?_
      exact PM_zret hx hb hr hlk dX3_in_15 (by first | rfl | decide) (by omega)
    · refine zv_iconst hx hb dX3_in_10 ?_
      refine lv_goto (tgt := 15) hx hb dX3_in_11 (by decide) ?_
      exact PM_zret hx hb hr hlk dX3_in_15 (by first | rfl | decide) (by omega)
set_option maxRecDepth 100000 in
set_option maxHeartbeats 4000000 in
theorem c_X3_squareOf (l : Launch) (D : va_G) (cI cJ : ClassId) (a b : Int) : PM l yX3_squareOf (.code yX3_squareOf cX3_squareOf 2 (some .int)) 0 [.int (iI a), .int (iI b)] D cI cJ [] (fun r => r = 7 * b + a) := by
  refine PM_of (by decide) rfl (Nat.le_of_ble_eq_true rfl) (fun p e s m below meth c ls hx hb hr hts hown hlk hml hK hP hl => ?_)
  have hl : lv_has ls 2 [(0, .int (iI a)), (1, .int (iI b))] := hl
  refine zv_bipush hx hb dX3_squareOf_0 (by decide) ?_
  refine lv_iload_n hx hb dX3_squareOf_2 rfl (lv_at hl 1 rfl) ?_
  refine zv_imul hx hb dX3_squareOf_3 ?_
  refine lv_iload_n hx hb dX3_squareOf_4 rfl (lv_at hl 0 rfl) ?_
  refine zv_iadd hx hb dX3_squareOf_5 ?_
  exact PM_iret hx hb hr hlk dX3_squareOf_6 (by first | rfl | omega)
set_option maxRecDepth 100000 in
set_option maxHeartbeats 4000000 in
theorem c_X3_joined (l : Launch) (D : va_G) (cI cJ : ClassId) (w k : Int) (hw0 : 0 ≤ w) (hw1 : w < 2147483648) (hk0 : 0 ≤ k) (hk1 : k < 6) : PM l yX3_joined (.code yX3_joined cX3_joined 2 (some .int)) 0 [.int (iI w), .int (iI k)] D cI cJ [] (fun r => r = wjZ w k) := by
  refine PM_of (by decide) rfl (Nat.le_of_ble_eq_true rfl) (fun p e s m below meth c ls hx hb hr hts hown hlk hml hK hP hl => ?_)
  have hl : lv_has ls 2 [(0, .int (iI w)), (1, .int (iI k))] := hl
  refine lv_iload_n hx hb dX3_joined_0 rfl (lv_at hl 0 rfl) ?_
  refine zv_bipush hx hb dX3_joined_1 (by decide) ?_
  refine zv_irem hx hb dX3_joined_3 (by omega) (by omega) (by omega) (by omega) ?_
  refine zv_if_le hx hb dX3_joined_4 (tgt := 26) (by decide) ⟨by omega, by omega⟩ (fun c_1 => ?_) (fun c_1 => ?_)
  · refine zv_bipush hx hb dX3_joined_26 (by decide) ?_
    refine lv_iload_n hx hb dX3_joined_28 rfl (lv_at hl 0 rfl) ?_
    refine zv_imul hx hb dX3_joined_29 ?_
    refine lv_iload_n hx hb dX3_joined_30 rfl (lv_at hl 1 rfl) ?_
    refine zv_iadd hx hb dX3_joined_31 ?_
    refine zv_iconst hx hb dX3_joined_32 ?_
    refine zv_iadd hx hb dX3_joined_33 ?_
    exact PM_iret hx hb hr hlk dX3_joined_34 (by first | exact wj_m1 (by omega) (by omega) (by omega) (by assumption) | exact wj_m2 (by omega) (by omega) (by omega) (by assumption) (by assumption) | exact wj_m3 (by omega) (by omega) (by omega) (by assumption) (by assumption))
  · refine lv_iload_n hx hb dX3_joined_7 rfl (lv_at hl 0 rfl) ?_
    refine zv_bipush hx hb dX3_joined_8 (by decide) ?_
    refine zv_irem hx hb dX3_joined_10 (by omega) (by omega) (by omega) (by omega) ?_
    refine zv_iconst hx hb dX3_joined_11 ?_
    refine zv_isub hx hb dX3_joined_12 ?_
    refine zv_iconst hx hb dX3_joined_13 ?_
    refine zv_ixor1 hx hb dX3_joined_14 (by omega) (by omega) ?_
    refine lv_iload_n hx hb dX3_joined_15 rfl (lv_at hl 1 rfl) ?_
    have hob := oppZ_b (k := w % 7 - 1) (by omega) (by omega)
    refine zv_icmp_ne hx hb dX3_joined_16 (tgt := 26) (by decide) ⟨by omega, by omega⟩ ⟨by omega, by omega⟩ (fun c_2 => ?_) (fun c_2 => ?_)
    · refine zv_bipush hx hb dX3_joined_26 (by decide) ?_
      refine lv_iload_n hx hb dX3_joined_28 rfl (lv_at hl 0 rfl) ?_
      refine zv_imul hx hb dX3_joined_29 ?_
      refine lv_iload_n hx hb dX3_joined_30 rfl (lv_at hl 1 rfl) ?_
      refine zv_iadd hx hb dX3_joined_31 ?_
      refine zv_iconst hx hb dX3_joined_32 ?_
      refine zv_iadd hx hb dX3_joined_33 ?_
      exact PM_iret hx hb hr hlk dX3_joined_34 (by first | exact wj_m1 (by omega) (by omega) (by omega) (by assumption) | exact wj_m2 (by omega) (by omega) (by omega) (by assumption) (by assumption) | exact wj_m3 (by omega) (by omega) (by omega) (by assumption) (by assumption))
    · refine lv_iload_n hx hb dX3_joined_19 rfl (lv_at hl 0 rfl) ?_
      refine zv_bipush hx hb dX3_joined_20 (by decide) ?_
      refine zv_idiv hx hb dX3_joined_22 (by omega) (by omega) (by omega) (by omega) ?_
      refine lv_goto (tgt := 34) hx hb dX3_joined_23 (by decide) ?_
      exact PM_iret hx hb hr hlk dX3_joined_34 (by first | exact wj_m1 (by omega) (by omega) (by omega) (by assumption) | exact wj_m2 (by omega) (by omega) (by omega) (by assumption) (by assumption) | exact wj_m3 (by omega) (by omega) (by omega) (by assumption) (by assumption))
set_option maxRecDepth 100000 in
set_option maxHeartbeats 4000000 in
theorem c_X3_size (l : Launch) (D : va_G) (cI cJ : ClassId) (w : Int) (hw0 : 0 ≤ w) (hw1 : w < 343) : PM l yX3_size (.code yX3_size cX3_size 3 (some .int)) 0 [.int (iI w)] D cI cJ [] (fun r => r = lenZ w) := by
  refine PM_of (by decide) rfl (Nat.le_of_ble_eq_true rfl) (fun p e s m below meth c ls hx hb hr hts hown hlk hml hK hP hl => ?_)
  have hl : lv_has ls 3 [(0, .int (iI w))] := hl
  refine zv_iconst hx hb dX3_size_0 ?_
  refine lv_istore_n (lv' := [(1, .int (iI 0)), (0, .int (iI w))]) hx hb dX3_size_1 rfl hl (by decide) rfl (fun ls hl => ?_)
  refine lv_iload_n hx hb dX3_size_2 rfl (lv_at hl 1 rfl) ?_
  refine lv_istore_n (lv' := [(2, .int (iI w)), (1, .int (iI 0)), (0, .int (iI w))]) hx hb dX3_size_3 rfl hl (by decide) rfl (fun ls hl => ?_)
  refine lv_iload_n hx hb dX3_size_4 rfl (lv_at hl 0 rfl) ?_
  refine zv_if_le hx hb dX3_size_5 (tgt := 19) (by decide) ⟨by omega, by omega⟩ (fun c_1 => ?_) (fun c_1 => ?_)
  · refine lv_iload_n hx hb dX3_size_19 rfl (lv_at hl 1 rfl) ?_
    exact PM_iret hx hb hr hlk dX3_size_20 (by unfold lenZ; (repeat' split) <;> omega)
  · refine zv_iinc (k := 1) (lv' := [(1, .int (iI 1)), (2, .int (iI w)), (0, .int (iI w))]) hx hb dX3_size_8 hl rfl (by decide) rfl (fun ls hl => ?_)
    refine lv_iload_n hx hb dX3_size_11 rfl (lv_at hl 1 rfl) ?_
    refine zv_bipush hx hb dX3_size_12 (by decide) ?_
    refine zv_idiv hx hb dX3_size_14 (by omega) (by omega) (by omega) (by omega) ?_
    refine lv_istore_n (lv' := [(2, .int (iI (w / 7))), (1, .int (iI 1)), (0, .int (iI w))]) hx hb dX3_size_15 rfl hl (by decide) rfl (fun ls hl => ?_)
    refine lv_goto (tgt := 4) hx hb dX3_size_16 (by decide) ?_
    refine lv_iload_n hx hb dX3_size_4 rfl (lv_at hl 0 rfl) ?_
    refine zv_if_le hx hb dX3_size_5 (tgt := 19) (by decide) ⟨by omega, by omega⟩ (fun c_2 => ?_) (fun c_2 => ?_)
    · refine lv_iload_n hx hb dX3_size_19 rfl (lv_at hl 1 rfl) ?_
      exact PM_iret hx hb hr hlk dX3_size_20 (by unfold lenZ; (repeat' split) <;> omega)
    · refine zv_iinc (k := 1) (lv' := [(1, .int (iI 2)), (2, .int (iI (w / 7))), (0, .int (iI w))]) hx hb dX3_size_8 hl rfl (by decide) rfl (fun ls hl => ?_)
      refine lv_iload_n hx hb dX3_size_11 rfl (lv_at hl 1 rfl) ?_
      refine zv_bipush hx hb dX3_size_12 (by decide) ?_
      refine zv_idiv hx hb dX3_size_14 (by omega) (by omega) (by omega) (by omega) ?_
      refine lv_istore_n (lv' := [(2, .int (iI ((w / 7) / 7))), (1, .int (iI 2)), (0, .int (iI w))]) hx hb dX3_size_15 rfl hl (by decide) rfl (fun ls hl => ?_)
      refine lv_goto (tgt := 4) hx hb dX3_size_16 (by decide) ?_
      refine lv_iload_n hx hb dX3_size_4 rfl (lv_at hl 0 rfl) ?_
      refine zv_if_le hx hb dX3_size_5 (tgt := 19) (by decide) ⟨by omega, by omega⟩ (fun c_3 => ?_) (fun c_3 => ?_)
      · refine lv_iload_n hx hb dX3_size_19 rfl (lv_at hl 1 rfl) ?_
        exact PM_iret hx hb hr hlk dX3_size_20 (by unfold lenZ; (repeat' split) <;> omega)
      · refine zv_iinc (k := 1) (lv' := [(1, .int (iI 3)), (2, .int (iI ((w / 7) / 7))), (0, .int (iI w))]) hx hb dX3_size_8 hl rfl (by decide) rfl (fun ls hl => ?_)
        refine lv_iload_n hx hb dX3_size_11 rfl (lv_at hl 1 rfl) ?_
        refine zv_bipush hx hb dX3_size_12 (by decide) ?_
        refine zv_idiv hx hb dX3_size_14 (by omega) (by omega) (by omega) (by omega) ?_
        refine lv_istore_n (lv' := [(2, .int (iI (((w / 7) / 7) / 7))), (1, .int (iI 3)), (0, .int (iI w))]) hx hb dX3_size_15 rfl hl (by decide) rfl (fun ls hl => ?_)
        refine lv_goto (tgt := 4) hx hb dX3_size_16 (by decide) ?_
        refine lv_iload_n hx hb dX3_size_4 rfl (lv_at hl 0 rfl) ?_
        refine zv_if_le hx hb dX3_size_5 (tgt := 19) (by decide) ⟨by omega, by omega⟩ (fun c_4 => ?_) (fun c_4 => by exfalso; omega)
        refine lv_iload_n hx hb dX3_size_19 rfl (lv_at hl 1 rfl) ?_
        exact PM_iret hx hb hr hlk dX3_size_20 (by unfold lenZ; (repeat' split) <;> omega)
set_option maxRecDepth 100000 in
set_option maxHeartbeats 4000000 in
theorem c_X3_isSquare (l : Launch) (D : va_G) (cI cJ : ClassId) (mm ac ar al aq ab : Nat) (th C R lim np qb qs wd sm : Int) (gc gr : Nat → Int) (N : Int → Int) (a b : Int) (hM : MdOK C R np N gc gr) (ha1 : -2147483648 ≤ a) (ha2 : a < 2147483648) (hb1 : -2147483648 ≤ b) (hb2 : b < 2147483648) : PM l yX3_isSquare (.code yX3_isSquare cX3_isSquare 3 (some .boolean)) 1 [.ref mm, .int (iI a), .int (iI b)] D cI cJ [(mm, .inr (3, [.int (iI th), .int (iI C), .int (iI R), .int (iI lim), .int (iI np), .ref ac, .ref ar, .int (iI qb), .int (iI qs), .int (iI wd), .int (iI sm), .ref al, .ref aq, .ref ab])), (ac, .inl (cI, 3, .inl (aI gc))), (ar, .inl (cI, 3, .inl (aI gr)))] (fun r => (r = 1 ∧ (0 ≤ a ∧ a < C ∧ 0 ≤ b ∧ b < R)) ∨ (r = 0 ∧ ¬ (0 ≤ a ∧ a < C ∧ 0 ≤ b ∧ b < R))) := by
  obtain ⟨hC1, hC2, hR1, hR2, hp1, hp2, -, -⟩ := id hM
  refine PM_of (by decide) rfl (Nat.le_of_ble_eq_true rfl) (fun p e s m below meth c ls hx hb hr hts hown hlk hml hK hP hl => ?_)
  have hl : lv_has ls 3 [(0, .ref mm), (1, .int (iI a)), (2, .int (iI b))] := hl
  refine lv_iload_n hx hb dX3_isSquare_0 rfl (lv_at hl 1 rfl) ?_
  refine zv_iconst hx hb dX3_isSquare_1 ?_
  refine lv_aload_n hx hb dX3_isSquare_2 rfl (lv_at hl 0 rfl) ?_
  refine va_get (D := D) (ci := 3) (v := .int (iI C)) (C := RX3) (T := TX3) (N := 14) hx hb hts uX3 hown hK.1 hP 0 rfl rfl 1 (by decide) (hts _ q_527) (fun _ h9 => h9) rfl dX3_isSquare_3 ?_
  refine zv_iconst hx hb dX3_isSquare_6 ?_
  refine zv_isub hx hb dX3_isSquare_7 ?_
  refine zc_S (As := [.int (iI a), .int (iI 0), .int (iI (C - 1))]) (rest := []) (ws := [(mm, .inr (3, [.int (iI th), .int (iI C), .int (iI R), .int (iI lim), .int (iI np), .ref ac, .ref ar, .int (iI qb), .int (iI qs), .int (iI wd), .int (iI sm), .ref al, .ref aq, .ref ab])), (ac, .inl (cI, 3, .inl (aI gc))), (ar, .inl (cI, 3, .inl (aI gr)))]) (n := 3) hx hb (hml.trans hl.1.symm) hts hown hK hP (c_X3_in l D cI cJ a 0 (C - 1) (⟨by omega, by omega⟩) (⟨by omega, by omega⟩) (⟨by omega, by omega⟩)) (gd_S q_497 q_498 q_6 q_499) (by decide +kernel) rfl ⟨Nat.le_of_ble_eq_true rfl, Nat.le_of_ble_eq_true rfl⟩ ⟨Nat.zero_le _, Nat.zero_le _⟩ [] rfl rfl (Nat.le_of_ble_eq_true rfl) dX3_isSquare_8 (fun r_1 hr_1 => ?_)
  refine zv_if_eq hx hb dX3_isSquare_11 (tgt := 32) (by decide) ⟨by omega, by omega⟩ (fun c_2 => ?_) (fun c_2 => ?_)
  · refine zv_iconst hx hb dX3_isSquare_32 ?_
    exact PM_zret hx hb hr hlk dX3_isSquare_33 (by first | rfl | decide) (by omega)
  · refine lv_iload_n hx hb dX3_isSquare_14 rfl (lv_at hl 2 rfl) ?_
    refine zv_iconst hx hb dX3_isSquare_15 ?_
    refine lv_aload_n hx hb dX3_isSquare_16 rfl (lv_at hl 0 rfl) ?_
    refine va_get (D := D) (ci := 3) (v := .int (iI R)) (C := RX3) (T := TX3) (N := 14) hx hb hts uX3 hown hK.1 hP 0 rfl rfl 2 (by decide) (hts _ q_528) (fun _ h9 => h9) rfl dX3_isSquare_17 ?_
    refine zv_iconst hx hb dX3_isSquare_20 ?_
    refine zv_isub hx hb dX3_isSquare_21 ?_
    refine zc_S (As := [.int (iI b), .int (iI 0), .int (iI (R - 1))]) (rest := []) (ws := [(mm, .inr (3, [.int (iI th), .int (iI C), .int (iI R), .int (iI lim), .int (iI np), .ref ac, .ref ar, .int (iI qb), .int (iI qs), .int (iI wd), .int (iI sm), .ref al, .ref aq, .ref ab])), (ac, .inl (cI, 3, .inl (aI gc))), (ar, .inl (cI, 3, .inl (aI gr)))]) (n := 3) hx hb (hml.trans hl.1.symm) hts hown hK hP (c_X3_in l D cI cJ b 0 (R - 1) (⟨by omega, by omega⟩) (⟨by omega, by omega⟩) (⟨by omega, by omega⟩)) (gd_S q_497 q_498 q_6 q_499) (by decide +kernel) rfl ⟨Nat.le_of_ble_eq_true rfl, Nat.le_of_ble_eq_true rfl⟩ ⟨Nat.zero_le _, Nat.zero_le _⟩ [] rfl rfl (Nat.le_of_ble_eq_true rfl) dX3_isSquare_22 (fun r_3 hr_3 => ?_)
    refine zv_if_eq hx hb dX3_isSquare_25 (tgt := 32) (by decide) ⟨by omega, by omega⟩ (fun c_4 => ?_) (fun c_4 => ?_)
    · refine zv_iconst hx hb dX3_isSquare_32 ?_
      exact PM_zret hx hb hr hlk dX3_isSquare_33 (by first | rfl | decide) (by omega)
    · refine zv_iconst hx hb dX3_isSquare_28 ?_
      refine lv_goto (tgt := 33) hx hb dX3_isSquare_29 (by decide) ?_
      exact PM_zret hx hb hr hlk dX3_isSquare_33 (by first | rfl | decide) (by omega)
set_option maxRecDepth 100000 in
set_option maxHeartbeats 4000000 in
theorem c_X3_isPillar (l : Launch) (D : va_G) (cI cJ : ClassId) (mm ac ar al aq ab : Nat) (th C R lim np qb qs wd sm : Int) (gc gr : Nat → Int) (N : Int → Int) (q : Int) (hM : MdOK C R np N gc gr) (hq1 : -2147483648 ≤ q) (hq2 : q < 2147483648) : PM l yX3_isPillar (.code yX3_isPillar cX3_isPillar 3 (some .boolean)) 1 [.ref mm, .int (iI q)] D cI cJ [(mm, .inr (3, [.int (iI th), .int (iI C), .int (iI R), .int (iI lim), .int (iI np), .ref ac, .ref ar, .int (iI qb), .int (iI qs), .int (iI wd), .int (iI sm), .ref al, .ref aq, .ref ab])), (ac, .inl (cI, 3, .inl (aI gc))), (ar, .inl (cI, 3, .inl (aI gr)))] (fun r => (r = 1 ∨ r = 0) ∧ ∀ a b, 0 ≤ a → a < C → 0 ≤ b → b < R → q = 7 * b + a → ((r = 1 ∧ N (a * 7 + b) ≠ -1) ∨ (r = 0 ∧ N (a * 7 + b) = -1))) := by
  obtain ⟨hC1, hC2, hR1, hR2, hp1, hp2, -, -⟩ := id hM
  refine PM_of (by decide) rfl (Nat.le_of_ble_eq_true rfl) (fun p e s m below meth c ls hx hb hr hts hown hlk hml hK hP hl => ?_)
  have hl : lv_has ls 3 [(0, .ref mm), (1, .int (iI q))] := hl
  refine zv_iconst hx hb dX3_isPillar_0 ?_
  refine lv_istore_n (lv' := [(2, .int (iI 0)), (0, .ref mm), (1, .int (iI q))]) hx hb dX3_isPillar_1 rfl hl (by decide) rfl (fun ls hl => ?_)
  have loop2 : ∀ (n : Nat) (i : Int), (0 ≤ i) → (i ≤ np) → (∀ j : Nat, (j : Int) < i → ¬ 7 * gr j + gc j = q) → (np - i < (n : Int)) → ∀ ls : Array Slot, lv_has ls 3 [(0, .ref mm), (1, .int (iI q)), (2, .int (iI i))] → W p l e (lvl 1) s m [.ref mm, .int (iI q)].toArray below meth c s.heap [] 0 0 (MQ below (PQ (fun r => (r = 1 ∨ r = 0) ∧ ∀ a b, 0 ≤ a → a < C → 0 ≤ b → b < R → q = 7 * b + a → ((r = 1 ∧ N (a * 7 + b) ≠ -1) ∨ (r = 0 ∧ N (a * 7 + b) = -1)))) [.ref mm, .int (iI q)].toArray s 0 0 (fun _ => False)) (F0 m 2 ls []) := by
    intro n
    induction n with
    | zero => intro i hi0 hin hno hms; exfalso; omega
    | succ n ih =>
      intro i hi0 hin hno hms ls hl
      refine lv_iload_n hx hb dX3_isPillar_2 rfl (lv_at hl 2 rfl) ?_
      refine lv_aload_n hx hb dX3_isPillar_3 rfl (lv_at hl 0 rfl) ?_
      refine va_get (D := D) (ci := 3) (v := .int (iI np)) (C := RX3) (T := TX3) (N := 14) hx hb hts uX3 hown hK.1 hP 0 rfl rfl 4 (by decide) (hts _ q_530) (fun _ h9 => h9) rfl dX3_isPillar_4 ?_
      refine zv_icmp_ge hx hb dX3_isPillar_7 (tgt := 37) (by decide) ⟨by omega, by omega⟩ ⟨by omega, by omega⟩ (fun c_1 => ?_) (fun c_1 => ?_)
      · refine zv_iconst hx hb dX3_isPillar_37 ?_
        exact PM_zret hx hb hr hlk dX3_isPillar_38 (by first | rfl | decide) (⟨Or.inr rfl, fun a b a0 a1 b0 b1 hq => by
      rcases hM.of (a * 7 + b) with g | ⟨g1, g2, g3⟩
      · exact Or.inr ⟨rfl, g⟩
      · exfalso
        have hat := hM.at g1 g2
        exact hno (N (a * 7 + b)).toNat (by omega) (by omega)⟩)
      · refine lv_aload_n hx hb dX3_isPillar_10 rfl (lv_at hl 0 rfl) ?_
        refine va_get (D := D) (ci := 3) (v := .ref ac) (C := RX3) (T := TX3) (N := 14) hx hb hts uX3 hown hK.1 hP 0 rfl rfl 5 (by decide) (hts _ q_531) (fun _ h9 => h9) rfl dX3_isPillar_11 ?_
        have hat := hM.at (i := i) (by omega) (by omega)
        refine lv_iload_n hx hb dX3_isPillar_14 rfl (lv_at hl 2 rfl) ?_
        refine zv_iald hx hb hK.1 hP 1 0 rfl rfl (by omega) (by omega) (by omega) dX3_isPillar_15 ?_
        refine lv_aload_n hx hb dX3_isPillar_16 rfl (lv_at hl 0 rfl) ?_
        refine va_get (D := D) (ci := 3) (v := .ref ar) (C := RX3) (T := TX3) (N := 14) hx hb hts uX3 hown hK.1 hP 0 rfl rfl 6 (by decide) (hts _ q_532) (fun _ h9 => h9) rfl dX3_isPillar_17 ?_
        refine lv_iload_n hx hb dX3_isPillar_20 rfl (lv_at hl 2 rfl) ?_
        refine zv_iald hx hb hK.1 hP 2 0 rfl rfl (by omega) (by omega) (by omega) dX3_isPillar_21 ?_
        refine zc_S (As := [.int (iI (gc (i).toNat)), .int (iI (gr (i).toNat))]) (rest := []) (ws := [(mm, .inr (3, [.int (iI th), .int (iI C), .int (iI R), .int (iI lim), .int (iI np), .ref ac, .ref ar, .int (iI qb), .int (iI qs), .int (iI wd), .int (iI sm), .ref al, .ref aq, .ref ab])), (ac, .inl (cI, 3, .inl (aI gc))), (ar, .inl (cI, 3, .inl (aI gr)))]) (n := 2) hx hb (hml.trans hl.1.symm) hts hown hK hP (c_X3_squareOf l D cI cJ (gc (i).toNat) (gr (i).toNat)) (gd_S q_500 q_501 q_6 q_502) (by decide +kernel) rfl ⟨Nat.le_of_ble_eq_true rfl, Nat.le_of_ble_eq_true rfl⟩ ⟨Nat.zero_le _, Nat.zero_le _⟩ [] rfl rfl (Nat.le_of_ble_eq_true rfl) dX3_isPillar_22 (fun r_2 hr_2 => ?_)
        subst hr_2
        refine lv_iload_n hx hb dX3_isPillar_25 rfl (lv_at hl 1 rfl) ?_
        refine zv_icmp_ne hx hb dX3_isPillar_26 (tgt := 31) (by decide) ⟨by omega, by omega⟩ ⟨by omega, by omega⟩ (fun c_3 => ?_) (fun c_3 => ?_)
        · refine zv_iinc (k := 2) (lv' := [(2, .int (iI (i + 1))), (0, .ref mm), (1, .int (iI q))]) hx hb dX3_isPillar_31 hl rfl (by decide) rfl (fun ls hl => ?_)
          refine lv_goto (tgt := 2) hx hb dX3_isPillar_34 (by decide) ?_
          exact ih (i + 1) (by omega) (by omega) (fun j hj => by rcases jlt (by omega) hj with g | rfl; exact hno j g; assumption) (by omega) ls (lv_sub hl [1, 2, 0] rfl)
        · refine zv_iconst hx hb dX3_isPillar_29 ?_
          exact PM_zret hx hb hr hlk dX3_isPillar_30 (by first | rfl | decide) (⟨Or.inl rfl, fun a b a0 a1 b0 b1 hq => by
      have e1 : gc i.toNat = a := by omega
      have e2 : gr i.toNat = b := by omega
      rw [e1, e2] at hat; omega⟩)
  exact loop2 4 0 (by omega) (by omega) (fun j hj => absurd hj (by omega)) (by omega) ls (lv_sub hl [1, 2, 0] rfl)
set_option maxRecDepth 100000 in
set_option maxHeartbeats 4000000 in
theorem c_X3_pillarBelow (l : Launch) (D : va_G) (cI cJ : ClassId) (mm ac ar al aq ab : Nat) (th C R lim np qb qs wd sm : Int) (gc gr : Nat → Int) (N : Int → Int) (a b : Int) (hM : MdOK C R np N gc gr) (ha0 : 0 ≤ a) (ha1 : a < C) (hb0 : 0 ≤ b) (hb1 : b < R) : PM l yX3_pillarBelow (.code yX3_pillarBelow cX3_pillarBelow 6 (some .int)) 1 [.ref mm, .int (iI a), .int (iI b)] D cI cJ [(mm, .inr (3, [.int (iI th), .int (iI C), .int (iI R), .int (iI lim), .int (iI np), .ref ac, .ref ar, .int (iI qb), .int (iI qs), .int (iI wd), .int (iI sm), .ref al, .ref aq, .ref ab])), (ac, .inl (cI, 3, .inl (aI gc))), (ar, .inl (cI, 3, .inl (aI gr)))] (BelP N gr R np a b) := by
  obtain ⟨hC1, hC2, hR1, hR2, hp1, hp2, -, -⟩ := id hM
  refine PM_of (by decide) rfl (Nat.le_of_ble_eq_true rfl) (fun p e s m below meth c ls hx hb hr hts hown hlk hml hK hP hl => ?_)
  have hl : lv_has ls 6 [(0, .ref mm), (1, .int (iI a)), (2, .int (iI b))] := hl
  refine zv_iconst hx hb dX3_pillarBelow_0 ?_
  refine lv_istore_n (lv' := [(3, .int (iI (-1))), (0, .ref mm), (1, .int (iI a)), (2, .int (iI b))]) hx hb dX3_pillarBelow_1 rfl hl (by decide) rfl (fun ls hl => ?_)
  refine zv_iconst hx hb dX3_pillarBelow_2 ?_
  refine lv_istore (lv' := [(4, .int (iI 0)), (3, .int (iI (-1))), (0, .ref mm), (1, .int (iI a)), (2, .int (iI b))]) hx hb dX3_pillarBelow_3 hl (by decide) rfl (fun ls hl => ?_)
  have loop5 : ∀ (n : Nat) (x i : Int), (0 ≤ i) → (i ≤ np) → (BelI gc gr a b i x) → (np - i < (n : Int)) → ∀ ls : Array Slot, lv_has ls 6 [(0, .ref mm), (1, .int (iI a)), (2, .int (iI b)), (3, .int (iI x)), (4, .int (iI i))] → W p l e (lvl 1) s m [.ref mm, .int (iI a), .int (iI b)].toArray below meth c s.heap [] 0 0 (MQ below (PQ (BelP N gr R np a b)) [.ref mm, .int (iI a), .int (iI b)].toArray s 0 0 (fun _ => False)) (F0 m 5 ls []) := by
    intro n
    induction n with
    | zero => intro x i hi0 hin hbl hms; exfalso; omega
    | succ n ih =>
      intro x i hi0 hin hbl hms ls hl
      have hbb := hbl.b
      refine lv_iload hx hb dX3_pillarBelow_5 (lv_at hl 4 rfl) ?_
      refine lv_aload_n hx hb dX3_pillarBelow_7 rfl (lv_at hl 0 rfl) ?_
      refine va_get (D := D) (ci := 3) (v := .int (iI np)) (C := RX3) (T := TX3) (N := 14) hx hb hts uX3 hown hK.1 hP 0 rfl rfl 4 (by decide) (hts _ q_530) (fun _ h9 => h9) rfl dX3_pillarBelow_8 ?_
      refine zv_icmp_ge hx hb dX3_pillarBelow_11 (tgt := 82) (by decide) ⟨by omega, by omega⟩ ⟨by omega, by omega⟩ (fun c_1 => ?_) (fun c_1 => ?_)
      · refine lv_iload_n hx hb dX3_pillarBelow_82 rfl (lv_at hl 3 rfl) ?_
        exact PM_iret hx hb hr hlk dX3_pillarBelow_83 (by rw [show i = np by omega] at hbl; exact hbl.p hM (by omega) (by omega) (by omega))
      · refine lv_aload_n hx hb dX3_pillarBelow_14 rfl (lv_at hl 0 rfl) ?_
        refine va_get (D := D) (ci := 3) (v := .ref ac) (C := RX3) (T := TX3) (N := 14) hx hb hts uX3 hown hK.1 hP 0 rfl rfl 5 (by decide) (hts _ q_531) (fun _ h9 => h9) rfl dX3_pillarBelow_15 ?_
        have hat := hM.at (i := i) (by omega) (by omega)
        refine lv_iload hx hb dX3_pillarBelow_18 (lv_at hl 4 rfl) ?_
        refine zv_iald hx hb hK.1 hP 1 0 rfl rfl (by omega) (by omega) (by omega) dX3_pillarBelow_20 ?_
        refine lv_iload_n hx hb dX3_pillarBelow_21 rfl (lv_at hl 1 rfl) ?_
        refine zv_icmp_ne hx hb dX3_pillarBelow_22 (tgt := 40) (by decide) ⟨by omega, by omega⟩ ⟨by omega, by omega⟩ (fun c_2 => ?_) (fun c_2 => ?_)
        · refine zv_iconst hx hb dX3_pillarBelow_40 ?_
          refine lv_istore (lv' := [(5, .int (iI 0)), (0, .ref mm), (1, .int (iI a)), (2, .int (iI b)), (3, .int (iI x)), (4, .int (iI i))]) hx hb dX3_pillarBelow_41 hl (by decide) rfl (fun ls hl => ?_)
          refine lv_iload hx hb dX3_pillarBelow_43 (lv_at hl 0 rfl) ?_
          refine zv_if_eq hx hb dX3_pillarBelow_45 (tgt := 74) (by decide) ⟨by omega, by omega⟩ (fun c_3 => ?_) (fun c_3 => by exfalso; omega)
          refine lv_iload_n hx hb dX3_pillarBelow_74 rfl (lv_at hl 4 rfl) ?_
          refine lv_istore_n (lv' := [(3, .int (iI x)), (5, .int (iI 0)), (0, .ref mm), (1, .int (iI a)), (2, .int (iI b)), (4, .int (iI i))]) hx hb dX3_pillarBelow_75 rfl hl (by decide) rfl (fun ls hl => ?_)
          refine zv_iinc (k := 5) (lv' := [(4, .int (iI (i + 1))), (3, .int (iI x)), (5, .int (iI 0)), (0, .ref mm), (1, .int (iI a)), (2, .int (iI b))]) hx hb dX3_pillarBelow_76 hl rfl (by decide) rfl (fun ls hl => ?_)
          refine lv_goto (tgt := 5) hx hb dX3_pillarBelow_79 (by decide) ?_
          exact ih x (i + 1) (by omega) (by omega) (by first | exact hbl.no (by omega) (by omega) | exact hbl.new (by omega) (by omega) (by omega) (by omega) | exact hbl.old (by omega) (by omega) (by omega)) (by omega) ls (lv_sub hl [3, 4, 5, 1, 0] rfl)
        · refine lv_aload_n hx hb dX3_pillarBelow_25 rfl (lv_at hl 0 rfl) ?_
          refine va_get (D := D) (ci := 3) (v := .ref ar) (C := RX3) (T := TX3) (N := 14) hx hb hts uX3 hown hK.1 hP 0 rfl rfl 6 (by decide) (hts _ q_532) (fun _ h9 => h9) rfl dX3_pillarBelow_26 ?_
          refine lv_iload hx hb dX3_pillarBelow_29 (lv_at hl 4 rfl) ?_
          refine zv_iald hx hb hK.1 hP 2 0 rfl rfl (by omega) (by omega) (by omega) dX3_pillarBelow_31 ?_
          refine lv_iload_n hx hb dX3_pillarBelow_32 rfl (lv_at hl 2 rfl) ?_
          refine zv_icmp_le hx hb dX3_pillarBelow_33 (tgt := 40) (by decide) ⟨by omega, by omega⟩ ⟨by omega, by omega⟩ (fun c_4 => ?_) (fun c_4 => ?_)
          · refine zv_iconst hx hb dX3_pillarBelow_40 ?_
            refine lv_istore (lv' := [(5, .int (iI 0)), (0, .ref mm), (1, .int (iI a)), (2, .int (iI b)), (3, .int (iI x)), (4, .int (iI i))]) hx hb dX3_pillarBelow_41 hl (by decide) rfl (fun ls hl => ?_)
            refine lv_iload hx hb dX3_pillarBelow_43 (lv_at hl 0 rfl) ?_
            refine zv_if_eq hx hb dX3_pillarBelow_45 (tgt := 74) (by decide) ⟨by omega, by omega⟩ (fun c_5 => ?_) (fun c_5 => by exfalso; omega)
            refine lv_iload_n hx hb dX3_pillarBelow_74 rfl (lv_at hl 4 rfl) ?_
            refine lv_istore_n (lv' := [(3, .int (iI x)), (5, .int (iI 0)), (0, .ref mm), (1, .int (iI a)), (2, .int (iI b)), (4, .int (iI i))]) hx hb dX3_pillarBelow_75 rfl hl (by decide) rfl (fun ls hl => ?_)
            refine zv_iinc (k := 5) (lv' := [(4, .int (iI (i + 1))), (3, .int (iI x)), (5, .int (iI 0)), (0, .ref mm), (1, .int (iI a)), (2, .int (iI b))]) hx hb dX3_pillarBelow_76 hl rfl (by decide) rfl (fun ls hl => ?_)
            refine lv_goto (tgt := 5) hx hb dX3_pillarBelow_79 (by decide) ?_
            exact ih x (i + 1) (by omega) (by omega) (by first | exact hbl.no (by omega) (by omega) | exact hbl.new (by omega) (by omega) (by omega) (by omega) | exact hbl.old (by omega) (by omega) (by omega)) (by omega) ls (lv_sub hl [3, 4, 5, 1, 0] rfl)
          · refine zv_iconst hx hb dX3_pillarBelow_36 ?_
            refine lv_goto (tgt := 41) hx hb dX3_pillarBelow_37 (by decide) ?_
            refine lv_istore (lv' := [(5, .int (iI 1)), (0, .ref mm), (1, .int (iI a)), (2, .int (iI b)), (3, .int (iI x)), (4, .int (iI i))]) hx hb dX3_pillarBelow_41 hl (by decide) rfl (fun ls hl => ?_)
            refine lv_iload hx hb dX3_pillarBelow_43 (lv_at hl 0 rfl) ?_
            refine zv_if_eq hx hb dX3_pillarBelow_45 (tgt := 74) (by decide) ⟨by omega, by omega⟩ (fun c_6 => by exfalso; omega) (fun c_6 => ?_)
            refine lv_iload_n hx hb dX3_pillarBelow_48 rfl (lv_at hl 4 rfl) ?_
            refine zv_iconst hx hb dX3_pillarBelow_49 ?_
            refine zv_icmp_eq hx hb dX3_pillarBelow_50 (tgt := 69) (by decide) ⟨by omega, by omega⟩ ⟨by omega, by omega⟩ (fun c_7 => ?_) (fun c_7 => ?_)
            · refine lv_iload hx hb dX3_pillarBelow_69 (lv_at hl 5 rfl) ?_
              refine lv_goto (tgt := 75) hx hb dX3_pillarBelow_71 (by decide) ?_
              refine lv_istore_n (lv' := [(3, .int (iI i)), (5, .int (iI 1)), (0, .ref mm), (1, .int (iI a)), (2, .int (iI b)), (4, .int (iI i))]) hx hb dX3_pillarBelow_75 rfl hl (by decide) rfl (fun ls hl => ?_)
              refine zv_iinc (k := 5) (lv' := [(4, .int (iI (i + 1))), (3, .int (iI i)), (5, .int (iI 1)), (0, .ref mm), (1, .int (iI a)), (2, .int (iI b))]) hx hb dX3_pillarBelow_76 hl rfl (by decide) rfl (fun ls hl => ?_)
              refine lv_goto (tgt := 5) hx hb dX3_pillarBelow_79 (by decide) ?_
              exact ih i (i + 1) (by omega) (by omega) (by first | exact hbl.no (by omega) (by omega) | exact hbl.new (by omega) (by omega) (by omega) (by omega) | exact hbl.old (by omega) (by omega) (by omega)) (by omega) ls (lv_sub hl [3, 4, 5, 1, 0] rfl)
            · refine lv_aload_n hx hb dX3_pillarBelow_53 rfl (lv_at hl 1 rfl) ?_
              refine va_get (D := D) (ci := 3) (v := .ref ar) (C := RX3) (T := TX3) (N := 14) hx hb hts uX3 hown hK.1 hP 0 rfl rfl 6 (by decide) (hts _ q_532) (fun _ h9 => h9) rfl dX3_pillarBelow_54 ?_
              refine lv_iload hx hb dX3_pillarBelow_57 (lv_at hl 5 rfl) ?_
              refine zv_iald hx hb hK.1 hP 2 0 rfl rfl (by omega) (by omega) (by omega) dX3_pillarBelow_59 ?_
              refine lv_aload_n hx hb dX3_pillarBelow_60 rfl (lv_at hl 1 rfl) ?_
              refine va_get (D := D) (ci := 3) (v := .ref ar) (C := RX3) (T := TX3) (N := 14) hx hb hts uX3 hown hK.1 hP 0 rfl rfl 6 (by decide) (hts _ q_532) (fun _ h9 => h9) rfl dX3_pillarBelow_61 ?_
              have hax := hM.at (i := x) (by omega) (by omega)
              refine lv_iload_n hx hb dX3_pillarBelow_64 rfl (lv_at hl 4 rfl) ?_
              refine zv_iald hx hb hK.1 hP 2 0 rfl rfl (by omega) (by omega) (by omega) dX3_pillarBelow_65 ?_
              refine zv_icmp_ge hx hb dX3_pillarBelow_66 (tgt := 74) (by decide) ⟨by omega, by omega⟩ ⟨by omega, by omega⟩ (fun c_8 => ?_) (fun c_8 => ?_)
              · refine lv_iload_n hx hb dX3_pillarBelow_74 rfl (lv_at hl 4 rfl) ?_
                refine lv_istore_n (lv' := [(3, .int (iI x)), (5, .int (iI 1)), (0, .ref mm), (1, .int (iI a)), (2, .int (iI b)), (4, .int (iI i))]) hx hb dX3_pillarBelow_75 rfl hl (by decide) rfl (fun ls hl => ?_)
                refine zv_iinc (k := 5) (lv' := [(4, .int (iI (i + 1))), (3, .int (iI x)), (5, .int (iI 1)), (0, .ref mm), (1, .int (iI a)), (2, .int (iI b))]) hx hb dX3_pillarBelow_76 hl rfl (by decide) rfl (fun ls hl => ?_)
                refine lv_goto (tgt := 5) hx hb dX3_pillarBelow_79 (by decide) ?_
                exact ih x (i + 1) (by omega) (by omega) (by first | exact hbl.no (by omega) (by omega) | exact hbl.new (by omega) (by omega) (by omega) (by omega) | exact hbl.old (by omega) (by omega) (by omega)) (by omega) ls (lv_sub hl [3, 4, 5, 1, 0] rfl)
              · refine lv_iload hx hb dX3_pillarBelow_69 (lv_at hl 5 rfl) ?_
                refine lv_goto (tgt := 75) hx hb dX3_pillarBelow_71 (by decide) ?_
                refine lv_istore_n (lv' := [(3, .int (iI i)), (5, .int (iI 1)), (0, .ref mm), (1, .int (iI a)), (2, .int (iI b)), (4, .int (iI i))]) hx hb dX3_pillarBelow_75 rfl hl (by decide) rfl (fun ls hl => ?_)
                refine zv_iinc (k := 5) (lv' := [(4, .int (iI (i + 1))), (3, .int (iI i)), (5, .int (iI 1)), (0, .ref mm), (1, .int (iI a)), (2, .int (iI b))]) hx hb dX3_pillarBelow_76 hl rfl (by decide) rfl (fun ls hl => ?_)
                refine lv_goto (tgt := 5) hx hb dX3_pillarBelow_79 (by decide) ?_
                exact ih i (i + 1) (by omega) (by omega) (by first | exact hbl.no (by omega) (by omega) | exact hbl.new (by omega) (by omega) (by omega) (by omega) | exact hbl.old (by omega) (by omega) (by omega)) (by omega) ls (lv_sub hl [3, 4, 5, 1, 0] rfl)
  exact loop5 4 (-1) 0 (by omega) (by omega) BelI.z (by omega) ls (lv_sub hl [2, 3, 4, 1, 0] rfl)
set_option maxRecDepth 100000 in
set_option maxHeartbeats 4000000 in
theorem c_X3_pillarAbove (l : Launch) (D : va_G) (cI cJ : ClassId) (mm ac ar al aq ab : Nat) (th C R lim np qb qs wd sm : Int) (gc gr : Nat → Int) (N : Int → Int) (a b v : Int) (hM : MdOK C R np N gc gr) (ha0 : 0 ≤ a) (ha1 : a < C) (hb0 : 0 ≤ b) (hb1 : b < R) (hv0 : 0 ≤ v) (hv1 : v ≤ 7) : PM l yX3_pillarAbove (.code yX3_pillarAbove cX3_pillarAbove 7 (some .int)) 1 [.ref mm, .int (iI a), .int (iI b), .int (iI v)] D cI cJ [(mm, .inr (3, [.int (iI th), .int (iI C), .int (iI R), .int (iI lim), .int (iI np), .ref ac, .ref ar, .int (iI qb), .int (iI qs), .int (iI wd), .int (iI sm), .ref al, .ref aq, .ref ab])), (ac, .inl (cI, 3, .inl (aI gc))), (ar, .inl (cI, 3, .inl (aI gr)))] (AbvP N gr np a b v) := by
  obtain ⟨hC1, hC2, hR1, hR2, hp1, hp2, -, -⟩ := id hM
  refine PM_of (by decide) rfl (Nat.le_of_ble_eq_true rfl) (fun p e s m below meth c ls hx hb hr hts hown hlk hml hK hP hl => ?_)
  have hl : lv_has ls 7 [(0, .ref mm), (1, .int (iI a)), (2, .int (iI b)), (3, .int (iI v))] := hl
  refine zv_iconst hx hb dX3_pillarAbove_0 ?_
  refine lv_istore (lv' := [(4, .int (iI (-1))), (0, .ref mm), (1, .int (iI a)), (2, .int (iI b)), (3, .int (iI v))]) hx hb dX3_pillarAbove_1 hl (by decide) rfl (fun ls hl => ?_)
  refine zv_iconst hx hb dX3_pillarAbove_3 ?_
  refine lv_istore (lv' := [(5, .int (iI 0)), (4, .int (iI (-1))), (0, .ref mm), (1, .int (iI a)), (2, .int (iI b)), (3, .int (iI v))]) hx hb dX3_pillarAbove_4 hl (by decide) rfl (fun ls hl => ?_)
  have loop6 : ∀ (n : Nat) (x i : Int), (0 ≤ i) → (i ≤ np) → (AbvI gc gr a b v i x) → (np - i < (n : Int)) → ∀ ls : Array Slot, lv_has ls 7 [(0, .ref mm), (1, .int (iI a)), (2, .int (iI b)), (3, .int (iI v)), (4, .int (iI x)), (5, .int (iI i))] → W p l e (lvl 1) s m [.ref mm, .int (iI a), .int (iI b), .int (iI v)].toArray below meth c s.heap [] 0 0 (MQ below (PQ (AbvP N gr np a b v)) [.ref mm, .int (iI a), .int (iI b), .int (iI v)].toArray s 0 0 (fun _ => False)) (F0 m 6 ls []) := by
    intro n
    induction n with
    | zero => intro x i hi0 hin hbl hms; exfalso; omega
    | succ n ih =>
      intro x i hi0 hin hbl hms ls hl
      have hbb := hbl.b
      refine lv_iload hx hb dX3_pillarAbove_6 (lv_at hl 5 rfl) ?_
      refine lv_aload_n hx hb dX3_pillarAbove_8 rfl (lv_at hl 0 rfl) ?_
      refine va_get (D := D) (ci := 3) (v := .int (iI np)) (C := RX3) (T := TX3) (N := 14) hx hb hts uX3 hown hK.1 hP 0 rfl rfl 4 (by decide) (hts _ q_530) (fun _ h9 => h9) rfl dX3_pillarAbove_9 ?_
      refine zv_icmp_ge hx hb dX3_pillarAbove_12 (tgt := 98) (by decide) ⟨by omega, by omega⟩ ⟨by omega, by omega⟩ (fun c_1 => ?_) (fun c_1 => ?_)
      · refine lv_iload hx hb dX3_pillarAbove_98 (lv_at hl 4 rfl) ?_
        exact PM_iret hx hb hr hlk dX3_pillarAbove_100 (by rw [show i = np by omega] at hbl; exact hbl.p hM (by omega) (by omega) (by omega) (by omega))
      · refine lv_aload_n hx hb dX3_pillarAbove_15 rfl (lv_at hl 0 rfl) ?_
        refine va_get (D := D) (ci := 3) (v := .ref ac) (C := RX3) (T := TX3) (N := 14) hx hb hts uX3 hown hK.1 hP 0 rfl rfl 5 (by decide) (hts _ q_531) (fun _ h9 => h9) rfl dX3_pillarAbove_16 ?_
        have hat := hM.at (i := i) (by omega) (by omega)
        refine lv_iload hx hb dX3_pillarAbove_19 (lv_at hl 5 rfl) ?_
        refine zv_iald hx hb hK.1 hP 1 0 rfl rfl (by omega) (by omega) (by omega) dX3_pillarAbove_21 ?_
        refine lv_iload_n hx hb dX3_pillarAbove_22 rfl (lv_at hl 1 rfl) ?_
        refine zv_icmp_ne hx hb dX3_pillarAbove_23 (tgt := 52) (by decide) ⟨by omega, by omega⟩ ⟨by omega, by omega⟩ (fun c_2 => ?_) (fun c_2 => ?_)
        · refine zv_iconst hx hb dX3_pillarAbove_52 ?_
          refine lv_istore (lv' := [(6, .int (iI 0)), (0, .ref mm), (1, .int (iI a)), (2, .int (iI b)), (3, .int (iI v)), (4, .int (iI x)), (5, .int (iI i))]) hx hb dX3_pillarAbove_53 hl (by decide) rfl (fun ls hl => ?_)
          refine lv_iload hx hb dX3_pillarAbove_55 (lv_at hl 0 rfl) ?_
          refine zv_if_eq hx hb dX3_pillarAbove_57 (tgt := 88) (by decide) ⟨by omega, by omega⟩ (fun c_3 => ?_) (fun c_3 => by exfalso; omega)
          refine lv_iload hx hb dX3_pillarAbove_88 (lv_at hl 5 rfl) ?_
          refine lv_istore (lv' := [(4, .int (iI x)), (6, .int (iI 0)), (0, .ref mm), (1, .int (iI a)), (2, .int (iI b)), (3, .int (iI v)), (5, .int (iI i))]) hx hb dX3_pillarAbove_90 hl (by decide) rfl (fun ls hl => ?_)
          refine zv_iinc (k := 6) (lv' := [(5, .int (iI (i + 1))), (4, .int (iI x)), (6, .int (iI 0)), (0, .ref mm), (1, .int (iI a)), (2, .int (iI b)), (3, .int (iI v))]) hx hb dX3_pillarAbove_92 hl rfl (by decide) rfl (fun ls hl => ?_)
          refine lv_goto (tgt := 6) hx hb dX3_pillarAbove_95 (by decide) ?_
          exact ih x (i + 1) (by omega) (by omega) (by first | exact hbl.no (by omega) (by omega) | exact hbl.new (by omega) (by omega) (by omega) (by omega) (by omega) | exact hbl.old (by omega) (by omega) (by omega)) (by omega) ls (lv_sub hl [3, 4, 5, 6, 1, 0] rfl)
        · refine lv_aload_n hx hb dX3_pillarAbove_26 rfl (lv_at hl 0 rfl) ?_
          refine va_get (D := D) (ci := 3) (v := .ref ar) (C := RX3) (T := TX3) (N := 14) hx hb hts uX3 hown hK.1 hP 0 rfl rfl 6 (by decide) (hts _ q_532) (fun _ h9 => h9) rfl dX3_pillarAbove_27 ?_
          refine lv_iload hx hb dX3_pillarAbove_30 (lv_at hl 5 rfl) ?_
          refine zv_iald hx hb hK.1 hP 2 0 rfl rfl (by omega) (by omega) (by omega) dX3_pillarAbove_32 ?_
          refine lv_iload_n hx hb dX3_pillarAbove_33 rfl (lv_at hl 2 rfl) ?_
          refine zv_icmp_le hx hb dX3_pillarAbove_34 (tgt := 52) (by decide) ⟨by omega, by omega⟩ ⟨by omega, by omega⟩ (fun c_4 => ?_) (fun c_4 => ?_)
          · refine zv_iconst hx hb dX3_pillarAbove_52 ?_
            refine lv_istore (lv' := [(6, .int (iI 0)), (0, .ref mm), (1, .int (iI a)), (2, .int (iI b)), (3, .int (iI v)), (4, .int (iI x)), (5, .int (iI i))]) hx hb dX3_pillarAbove_53 hl (by decide) rfl (fun ls hl => ?_)
            refine lv_iload hx hb dX3_pillarAbove_55 (lv_at hl 0 rfl) ?_
            refine zv_if_eq hx hb dX3_pillarAbove_57 (tgt := 88) (by decide) ⟨by omega, by omega⟩ (fun c_5 => ?_) (fun c_5 => by exfalso; omega)
            refine lv_iload hx hb dX3_pillarAbove_88 (lv_at hl 5 rfl) ?_
            refine lv_istore (lv' := [(4, .int (iI x)), (6, .int (iI 0)), (0, .ref mm), (1, .int (iI a)), (2, .int (iI b)), (3, .int (iI v)), (5, .int (iI i))]) hx hb dX3_pillarAbove_90 hl (by decide) rfl (fun ls hl => ?_)
            refine zv_iinc (k := 6) (lv' := [(5, .int (iI (i + 1))), (4, .int (iI x)), (6, .int (iI 0)), (0, .ref mm), (1, .int (iI a)), (2, .int (iI b)), (3, .int (iI v))]) hx hb dX3_pillarAbove_92 hl rfl (by decide) rfl (fun ls hl => ?_)
            refine lv_goto (tgt := 6) hx hb dX3_pillarAbove_95 (by decide) ?_
            exact ih x (i + 1) (by omega) (by omega) (by first | exact hbl.no (by omega) (by omega) | exact hbl.new (by omega) (by omega) (by omega) (by omega) (by omega) | exact hbl.old (by omega) (by omega) (by omega)) (by omega) ls (lv_sub hl [3, 4, 5, 6, 1, 0] rfl)
          · refine lv_aload_n hx hb dX3_pillarAbove_37 rfl (lv_at hl 0 rfl) ?_
            refine va_get (D := D) (ci := 3) (v := .ref ar) (C := RX3) (T := TX3) (N := 14) hx hb hts uX3 hown hK.1 hP 0 rfl rfl 6 (by decide) (hts _ q_532) (fun _ h9 => h9) rfl dX3_pillarAbove_38 ?_
            refine lv_iload hx hb dX3_pillarAbove_41 (lv_at hl 5 rfl) ?_
            refine zv_iald hx hb hK.1 hP 2 0 rfl rfl (by omega) (by omega) (by omega) dX3_pillarAbove_43 ?_
            refine lv_iload_n hx hb dX3_pillarAbove_44 rfl (lv_at hl 3 rfl) ?_
            refine zv_icmp_ge hx hb dX3_pillarAbove_45 (tgt := 52) (by decide) ⟨by omega, by omega⟩ ⟨by omega, by omega⟩ (fun c_6 => ?_) (fun c_6 => ?_)
            · refine zv_iconst hx hb dX3_pillarAbove_52 ?_
              refine lv_istore (lv' := [(6, .int (iI 0)), (0, .ref mm), (1, .int (iI a)), (2, .int (iI b)), (3, .int (iI v)), (4, .int (iI x)), (5, .int (iI i))]) hx hb dX3_pillarAbove_53 hl (by decide) rfl (fun ls hl => ?_)
              refine lv_iload hx hb dX3_pillarAbove_55 (lv_at hl 0 rfl) ?_
              refine zv_if_eq hx hb dX3_pillarAbove_57 (tgt := 88) (by decide) ⟨by omega, by omega⟩ (fun c_7 => ?_) (fun c_7 => by exfalso; omega)
              refine lv_iload hx hb dX3_pillarAbove_88 (lv_at hl 5 rfl) ?_
              refine lv_istore (lv' := [(4, .int (iI x)), (6, .int (iI 0)), (0, .ref mm), (1, .int (iI a)), (2, .int (iI b)), (3, .int (iI v)), (5, .int (iI i))]) hx hb dX3_pillarAbove_90 hl (by decide) rfl (fun ls hl => ?_)
              refine zv_iinc (k := 6) (lv' := [(5, .int (iI (i + 1))), (4, .int (iI x)), (6, .int (iI 0)), (0, .ref mm), (1, .int (iI a)), (2, .int (iI b)), (3, .int (iI v))]) hx hb dX3_pillarAbove_92 hl rfl (by decide) rfl (fun ls hl => ?_)
              refine lv_goto (tgt := 6) hx hb dX3_pillarAbove_95 (by decide) ?_
              exact ih x (i + 1) (by omega) (by omega) (by first | exact hbl.no (by omega) (by omega) | exact hbl.new (by omega) (by omega) (by omega) (by omega) (by omega) | exact hbl.old (by omega) (by omega) (by omega)) (by omega) ls (lv_sub hl [3, 4, 5, 6, 1, 0] rfl)
            · refine zv_iconst hx hb dX3_pillarAbove_48 ?_
              refine lv_goto (tgt := 53) hx hb dX3_pillarAbove_49 (by decide) ?_
              refine lv_istore (lv' := [(6, .int (iI 1)), (0, .ref mm), (1, .int (iI a)), (2, .int (iI b)), (3, .int (iI v)), (4, .int (iI x)), (5, .int (iI i))]) hx hb dX3_pillarAbove_53 hl (by decide) rfl (fun ls hl => ?_)
              refine lv_iload hx hb dX3_pillarAbove_55 (lv_at hl 0 rfl) ?_
              refine zv_if_eq hx hb dX3_pillarAbove_57 (tgt := 88) (by decide) ⟨by omega, by omega⟩ (fun c_8 => by exfalso; omega) (fun c_8 => ?_)
              refine lv_iload hx hb dX3_pillarAbove_60 (lv_at hl 5 rfl) ?_
              refine zv_iconst hx hb dX3_pillarAbove_62 ?_
              refine zv_icmp_eq hx hb dX3_pillarAbove_63 (tgt := 83) (by decide) ⟨by omega, by omega⟩ ⟨by omega, by omega⟩ (fun c_9 => ?_) (fun c_9 => ?_)
              · refine lv_iload hx hb dX3_pillarAbove_83 (lv_at hl 6 rfl) ?_
                refine lv_goto (tgt := 90) hx hb dX3_pillarAbove_85 (by decide) ?_
                refine lv_istore (lv' := [(4, .int (iI i)), (6, .int (iI 1)), (0, .ref mm), (1, .int (iI a)), (2, .int (iI b)), (3, .int (iI v)), (5, .int (iI i))]) hx hb dX3_pillarAbove_90 hl (by decide) rfl (fun ls hl => ?_)
                refine zv_iinc (k := 6) (lv' := [(5, .int (iI (i + 1))), (4, .int (iI i)), (6, .int (iI 1)), (0, .ref mm), (1, .int (iI a)), (2, .int (iI b)), (3, .int (iI v))]) hx hb dX3_pillarAbove_92 hl rfl (by decide) rfl (fun ls hl => ?_)
                refine lv_goto (tgt := 6) hx hb dX3_pillarAbove_95 (by decide) ?_
                exact ih i (i + 1) (by omega) (by omega) (by first | exact hbl.no (by omega) (by omega) | exact hbl.new (by omega) (by omega) (by omega) (by omega) (by omega) | exact hbl.old (by omega) (by omega) (by omega)) (by omega) ls (lv_sub hl [3, 4, 5, 6, 1, 0] rfl)
              · refine lv_aload_n hx hb dX3_pillarAbove_66 rfl (lv_at hl 1 rfl) ?_
                refine va_get (D := D) (ci := 3) (v := .ref ar) (C := RX3) (T := TX3) (N := 14) hx hb hts uX3 hown hK.1 hP 0 rfl rfl 6 (by decide) (hts _ q_532) (fun _ h9 => h9) rfl dX3_pillarAbove_67 ?_
                refine lv_iload hx hb dX3_pillarAbove_70 (lv_at hl 6 rfl) ?_
                refine zv_iald hx hb hK.1 hP 2 0 rfl rfl (by omega) (by omega) (by omega) dX3_pillarAbove_72 ?_
                refine lv_aload_n hx hb dX3_pillarAbove_73 rfl (lv_at hl 1 rfl) ?_
                refine va_get (D := D) (ci := 3) (v := .ref ar) (C := RX3) (T := TX3) (N := 14) hx hb hts uX3 hown hK.1 hP 0 rfl rfl 6 (by decide) (hts _ q_532) (fun _ h9 => h9) rfl dX3_pillarAbove_74 ?_
                have hax := hM.at (i := x) (by omega) (by omega)
                refine lv_iload hx hb dX3_pillarAbove_77 (lv_at hl 5 rfl) ?_
                refine zv_iald hx hb hK.1 hP 2 0 rfl rfl (by omega) (by omega) (by omega) dX3_pillarAbove_79 ?_
                refine zv_icmp_le hx hb dX3_pillarAbove_80 (tgt := 88) (by decide) ⟨by omega, by omega⟩ ⟨by omega, by omega⟩ (fun c_10 => ?_) (fun c_10 => ?_)
                · refine lv_iload hx hb dX3_pillarAbove_88 (lv_at hl 5 rfl) ?_
                  refine lv_istore (lv' := [(4, .int (iI x)), (6, .int (iI 1)), (0, .ref mm), (1, .int (iI a)), (2, .int (iI b)), (3, .int (iI v)), (5, .int (iI i))]) hx hb dX3_pillarAbove_90 hl (by decide) rfl (fun ls hl => ?_)
                  refine zv_iinc (k := 6) (lv' := [(5, .int (iI (i + 1))), (4, .int (iI x)), (6, .int (iI 1)), (0, .ref mm), (1, .int (iI a)), (2, .int (iI b)), (3, .int (iI v))]) hx hb dX3_pillarAbove_92 hl rfl (by decide) rfl (fun ls hl => ?_)
                  refine lv_goto (tgt := 6) hx hb dX3_pillarAbove_95 (by decide) ?_
                  exact ih x (i + 1) (by omega) (by omega) (by first | exact hbl.no (by omega) (by omega) | exact hbl.new (by omega) (by omega) (by omega) (by omega) (by omega) | exact hbl.old (by omega) (by omega) (by omega)) (by omega) ls (lv_sub hl [3, 4, 5, 6, 1, 0] rfl)
                · refine lv_iload hx hb dX3_pillarAbove_83 (lv_at hl 6 rfl) ?_
                  refine lv_goto (tgt := 90) hx hb dX3_pillarAbove_85 (by decide) ?_
                  refine lv_istore (lv' := [(4, .int (iI i)), (6, .int (iI 1)), (0, .ref mm), (1, .int (iI a)), (2, .int (iI b)), (3, .int (iI v)), (5, .int (iI i))]) hx hb dX3_pillarAbove_90 hl (by decide) rfl (fun ls hl => ?_)
                  refine zv_iinc (k := 6) (lv' := [(5, .int (iI (i + 1))), (4, .int (iI i)), (6, .int (iI 1)), (0, .ref mm), (1, .int (iI a)), (2, .int (iI b)), (3, .int (iI v))]) hx hb dX3_pillarAbove_92 hl rfl (by decide) rfl (fun ls hl => ?_)
                  refine lv_goto (tgt := 6) hx hb dX3_pillarAbove_95 (by decide) ?_
                  exact ih i (i + 1) (by omega) (by omega) (by first | exact hbl.no (by omega) (by omega) | exact hbl.new (by omega) (by omega) (by omega) (by omega) (by omega) | exact hbl.old (by omega) (by omega) (by omega)) (by omega) ls (lv_sub hl [3, 4, 5, 6, 1, 0] rfl)
  exact loop6 4 (-1) 0 (by omega) (by omega) AbvI.z (by omega) ls (lv_sub hl [2, 3, 4, 5, 1, 0] rfl)
set_option maxRecDepth 100000 in
set_option maxHeartbeats 4000000 in
theorem c_X3_goesRight (l : Launch) (D : va_G) (cI cJ : ClassId) (mm ac ar al aq ab : Nat) (th C R lim np qb qs wd sm : Int) (gc gr : Nat → Int) (N : Int → Int) (w a b : Int) (hM : MdOK C R np N gc gr) (ha0 : 0 ≤ a) (ha1 : a < C) (hb0 : 0 ≤ b) (hb1 : b < R) (hw0 : 0 ≤ w) (hw1 : w < 343) : PM l yX3_goesRight (.code yX3_goesRight cX3_goesRight 6 (some .int)) 2 [.ref mm, .int (iI w), .int (iI a), .int (iI b)] D cI cJ [(mm, .inr (3, [.int (iI th), .int (iI C), .int (iI R), .int (iI lim), .int (iI np), .ref ac, .ref ar, .int (iI qb), .int (iI qs), .int (iI wd), .int (iI sm), .ref al, .ref aq, .ref ab])), (ac, .inl (cI, 3, .inl (aI gc))), (ar, .inl (cI, 3, .inl (aI gr)))] (fun r => r = wRZ N R a b w) := by
  obtain ⟨hC1, hC2, hR1, hR2, hp1, hp2, -, -⟩ := id hM
  refine PM_of (by decide) rfl (Nat.le_of_ble_eq_true rfl) (fun p e s m below meth c ls hx hb hr hts hown hlk hml hK hP hl => ?_)
  have hl : lv_has ls 6 [(0, .ref mm), (1, .int (iI w)), (2, .int (iI a)), (3, .int (iI b))] := hl
  refine lv_iload_n hx hb dX3_goesRight_0 rfl (lv_at hl 1 rfl) ?_
  refine lv_istore (lv' := [(4, .int (iI w)), (0, .ref mm), (1, .int (iI w)), (2, .int (iI a)), (3, .int (iI b))]) hx hb dX3_goesRight_1 hl (by decide) rfl (fun ls hl => ?_)
  refine lv_aload_n hx hb dX3_goesRight_3 rfl (lv_at hl 1 rfl) ?_
  refine lv_iload_n hx hb dX3_goesRight_4 rfl (lv_at hl 3 rfl) ?_
  refine lv_iload_n hx hb dX3_goesRight_5 rfl (lv_at hl 4 rfl) ?_
  refine zc_V (As := [.int (iI a), .int (iI b)]) (rest := []) (ws := [(mm, .inr (3, [.int (iI th), .int (iI C), .int (iI R), .int (iI lim), .int (iI np), .ref ac, .ref ar, .int (iI qb), .int (iI qs), .int (iI wd), .int (iI sm), .ref al, .ref aq, .ref ab])), (ac, .inl (cI, 3, .inl (aI gc))), (ar, .inl (cI, 3, .inl (aI gr)))]) (n := 2) hx hb (hml.trans hl.1.symm) hts hown hK hP (c_X3_pillarBelow l D cI cJ mm ac ar al aq ab th C R lim np qb qs wd sm gc gr N a b hM (by omega) (by omega) (by omega) (by omega)) (gd_V q_511 q_513 q_1019 q_6 q_514) (by decide +kernel) rfl ⟨Nat.le_of_ble_eq_true rfl, Nat.le_of_ble_eq_true rfl⟩ ⟨Nat.zero_le _, Nat.zero_le _⟩ [0, 1, 2] rfl 0 (ci := 3) rfl rfl rfl rfl (Nat.le_of_ble_eq_true rfl) dX3_goesRight_6 (fun r_1 hr_1 => ?_)
  refine lv_istore (lv' := [(5, .int (iI r_1)), (4, .int (iI w)), (0, .ref mm), (1, .int (iI w)), (2, .int (iI a)), (3, .int (iI b))]) hx hb dX3_goesRight_9 hl (by decide) rfl (fun ls hl => ?_)
  have loop11 : ∀ (n : Nat) (x k : Int) (u : Int), (b ≤ u) → (u < R) → (x = wRn N a (u - b).toNat (b + 1) w) → (BelP N gr R np a u k) → (R - u < (n : Int)) → ∀ ls : Array Slot, lv_has ls 6 [(0, .ref mm), (1, .int (iI w)), (2, .int (iI a)), (3, .int (iI b)), (4, .int (iI x)), (5, .int (iI k))] → W p l e (lvl 2) s m [.ref mm, .int (iI w), .int (iI a), .int (iI b)].toArray below meth c s.heap [] 0 0 (MQ below (PQ (fun r => r = wRZ N R a b w)) [.ref mm, .int (iI w), .int (iI a), .int (iI b)].toArray s 0 0 (fun _ => False)) (F0 m 11 ls []) := by
    intro n
    induction n with
    | zero => intro x k u hu0 hu1 hxw hk hms; exfalso; omega
    | succ n ih =>
      intro x k u hu0 hu1 hxw hk hms ls hl
      have hxb := wRn_b hM.Fl (c := a) hw0 hw1 (u - b).toNat (b + 1)
      have hpb := pw7_le (u - b).toNat (by omega)
      rw [← hxw] at hxb
      have hkb : -1 ≤ k ∧ k ≤ 2 := by rcases hk with ⟨h, -⟩ | ⟨h, h2, -⟩ <;> omega
      refine lv_iload hx hb dX3_goesRight_11 (lv_at hl 5 rfl) ?_
      refine zv_iconst hx hb dX3_goesRight_13 ?_
      refine zv_icmp_eq hx hb dX3_goesRight_14 (tgt := 45) (by decide) ⟨by omega, by omega⟩ ⟨by omega, by omega⟩ (fun c_2 => ?_) (fun c_2 => ?_)
      · refine lv_iload hx hb dX3_goesRight_45 (lv_at hl 4 rfl) ?_
        exact PM_iret hx hb hr hlk dX3_goesRight_47 (by rcases hk with ⟨-, h⟩ | ⟨h, -⟩ <;> first | (rw [hxw, wRn_end hu0 hu1 h]; done) | (exfalso; omega))
      · rcases hk with ⟨hk1, -⟩ | ⟨hk0, hk1, y, hy0, hy1, hyN, hyr, hyn⟩
        · exact absurd hk1 (by assumption)
        refine lv_iload hx hb dX3_goesRight_17 (lv_at hl 4 rfl) ?_
        refine zv_iconst hx hb dX3_goesRight_19 ?_
        refine lv_iload hx hb dX3_goesRight_20 (lv_at hl 5 rfl) ?_
        refine zv_imul hx hb dX3_goesRight_22 ?_
        refine zc_S (As := [.int (iI x), .int (iI (2 * k))]) (rest := []) (ws := [(mm, .inr (3, [.int (iI th), .int (iI C), .int (iI R), .int (iI lim), .int (iI np), .ref ac, .ref ar, .int (iI qb), .int (iI qs), .int (iI wd), .int (iI sm), .ref al, .ref aq, .ref ab])), (ac, .inl (cI, 3, .inl (aI gc))), (ar, .inl (cI, 3, .inl (aI gr)))]) (n := 2) hx hb (hml.trans hl.1.symm) hts hown hK hP (c_X3_joined l D cI cJ x (2 * k) (by omega) (by omega) (by omega) (by omega)) (gd_S q_515 q_516 q_6 q_517) (by decide +kernel) rfl ⟨Nat.le_of_ble_eq_true rfl, Nat.le_of_ble_eq_true rfl⟩ ⟨Nat.zero_le _, Nat.zero_le _⟩ [] rfl rfl (Nat.le_of_ble_eq_true rfl) dX3_goesRight_23 (fun r_3 hr_3 => ?_)
        subst hr_3
        refine lv_istore (lv' := [(4, .int (iI (wjZ x (2 * k)))), (0, .ref mm), (1, .int (iI w)), (2, .int (iI a)), (3, .int (iI b)), (5, .int (iI k))]) hx hb dX3_goesRight_26 hl (by decide) rfl (fun ls hl => ?_)
        refine lv_aload_n hx hb dX3_goesRight_28 rfl (lv_at hl 1 rfl) ?_
        refine lv_iload_n hx hb dX3_goesRight_29 rfl (lv_at hl 3 rfl) ?_
        refine lv_aload_n hx hb dX3_goesRight_30 rfl (lv_at hl 1 rfl) ?_
        refine va_get (D := D) (ci := 3) (v := .ref ar) (C := RX3) (T := TX3) (N := 14) hx hb hts uX3 hown hK.1 hP 0 rfl rfl 6 (by decide) (hts _ q_532) (fun _ h9 => h9) rfl dX3_goesRight_31 ?_
        refine lv_iload hx hb dX3_goesRight_34 (lv_at hl 5 rfl) ?_
        refine zv_iald hx hb hK.1 hP 2 0 rfl rfl (by omega) (by omega) (by omega) dX3_goesRight_36 ?_
        refine zv_top (y := y) (hyr) ?_
        refine zc_V (As := [.int (iI a), .int (iI y)]) (rest := []) (ws := [(mm, .inr (3, [.int (iI th), .int (iI C), .int (iI R), .int (iI lim), .int (iI np), .ref ac, .ref ar, .int (iI qb), .int (iI qs), .int (iI wd), .int (iI sm), .ref al, .ref aq, .ref ab])), (ac, .inl (cI, 3, .inl (aI gc))), (ar, .inl (cI, 3, .inl (aI gr)))]) (n := 2) hx hb (hml.trans hl.1.symm) hts hown hK hP (c_X3_pillarBelow l D cI cJ mm ac ar al aq ab th C R lim np qb qs wd sm gc gr N a y hM (by omega) (by omega) (by omega) (by omega)) (gd_V q_511 q_513 q_1019 q_6 q_514) (by decide +kernel) rfl ⟨Nat.le_of_ble_eq_true rfl, Nat.le_of_ble_eq_true rfl⟩ ⟨Nat.zero_le _, Nat.zero_le _⟩ [0, 1, 2] rfl 0 (ci := 3) rfl rfl rfl rfl (Nat.le_of_ble_eq_true rfl) dX3_goesRight_37 (fun r_4 hr_4 => ?_)
        refine lv_istore (lv' := [(5, .int (iI r_4)), (4, .int (iI (wjZ x (2 * k)))), (0, .ref mm), (1, .int (iI w)), (2, .int (iI a)), (3, .int (iI b))]) hx hb dX3_goesRight_40 hl (by decide) rfl (fun ls hl => ?_)
        refine lv_goto (tgt := 11) hx hb dX3_goesRight_42 (by decide) ?_
        exact ih (wjZ x (2 * k)) r_4 y (by omega) (by omega) (by rw [wRn_to hu0 hy0 hyn (by omega), hyN, ← hxw]) (by assumption) (by omega) ls (lv_sub hl [2, 3, 4, 5, 1, 0] rfl)
  exact loop11 8 w r_1 b (by omega) (by omega) (by rw [show (b - b).toNat = 0 by omega]; rfl) (by assumption) (by omega) ls (lv_sub hl [2, 3, 4, 5, 1, 0] rfl)
set_option maxRecDepth 100000 in
set_option maxHeartbeats 4000000 in
theorem c_X3_goesLeft (l : Launch) (D : va_G) (cI cJ : ClassId) (mm ac ar al aq ab : Nat) (th C R lim np qb qs wd sm : Int) (gc gr : Nat → Int) (N : Int → Int) (w a b : Int) (hM : MdOK C R np N gc gr) (ha0 : 0 ≤ a) (ha1 : a < C) (hb0 : 0 ≤ b) (hb1 : b < R) (hw0 : 0 ≤ w) (hw1 : w < 343) : PM l yX3_goesLeft (.code yX3_goesLeft cX3_goesLeft 6 (some .int)) 2 [.ref mm, .int (iI w), .int (iI a), .int (iI b)] D cI cJ [(mm, .inr (3, [.int (iI th), .int (iI C), .int (iI R), .int (iI lim), .int (iI np), .ref ac, .ref ar, .int (iI qb), .int (iI qs), .int (iI wd), .int (iI sm), .ref al, .ref aq, .ref ab])), (ac, .inl (cI, 3, .inl (aI gc))), (ar, .inl (cI, 3, .inl (aI gr)))] (fun r => r = wLZ N R a b w) := by
  obtain ⟨hC1, hC2, hR1, hR2, hp1, hp2, -, -⟩ := id hM
  refine PM_of (by decide) rfl (Nat.le_of_ble_eq_true rfl) (fun p e s m below meth c ls hx hb hr hts hown hlk hml hK hP hl => ?_)
  have hl : lv_has ls 6 [(0, .ref mm), (1, .int (iI w)), (2, .int (iI a)), (3, .int (iI b))] := hl
  refine lv_iload_n hx hb dX3_goesLeft_0 rfl (lv_at hl 1 rfl) ?_
  refine lv_istore (lv' := [(4, .int (iI w)), (0, .ref mm), (1, .int (iI w)), (2, .int (iI a)), (3, .int (iI b))]) hx hb dX3_goesLeft_1 hl (by decide) rfl (fun ls hl => ?_)
  refine lv_aload_n hx hb dX3_goesLeft_3 rfl (lv_at hl 1 rfl) ?_
  refine lv_iload_n hx hb dX3_goesLeft_4 rfl (lv_at hl 3 rfl) ?_
  refine lv_iload_n hx hb dX3_goesLeft_5 rfl (lv_at hl 4 rfl) ?_
  refine zv_bipush hx hb dX3_goesLeft_6 (by decide) ?_
  refine zc_V (As := [.int (iI a), .int (iI b), .int (iI 7)]) (rest := []) (ws := [(mm, .inr (3, [.int (iI th), .int (iI C), .int (iI R), .int (iI lim), .int (iI np), .ref ac, .ref ar, .int (iI qb), .int (iI qs), .int (iI wd), .int (iI sm), .ref al, .ref aq, .ref ab])), (ac, .inl (cI, 3, .inl (aI gc))), (ar, .inl (cI, 3, .inl (aI gr)))]) (n := 3) hx hb (hml.trans hl.1.symm) hts hown hK hP (c_X3_pillarAbove l D cI cJ mm ac ar al aq ab th C R lim np qb qs wd sm gc gr N a b 7 hM (by omega) (by omega) (by omega) (by omega) (by omega) (by omega)) (gd_V q_522 q_524 q_1021 q_6 q_525) (by decide +kernel) rfl ⟨Nat.le_of_ble_eq_true rfl, Nat.le_of_ble_eq_true rfl⟩ ⟨Nat.zero_le _, Nat.zero_le _⟩ [0, 1, 2] rfl 0 (ci := 3) rfl rfl rfl rfl (Nat.le_of_ble_eq_true rfl) dX3_goesLeft_8 (fun r_1 hr_1 => ?_)
  refine lv_istore (lv' := [(5, .int (iI r_1)), (4, .int (iI w)), (0, .ref mm), (1, .int (iI w)), (2, .int (iI a)), (3, .int (iI b))]) hx hb dX3_goesLeft_11 hl (by decide) rfl (fun ls hl => ?_)
  have loop13 : ∀ (n : Nat) (x k : Int) (v : Int), (b < v) → (v ≤ 7) → (wLn N a (v - 1 - b).toNat (b + 1) x = wLZ N R a b w) → (0 ≤ x) → (x < pw7 (7 - v).toNat) → (AbvP N gr np a b v k) → (v - b < (n : Int)) → ∀ ls : Array Slot, lv_has ls 6 [(0, .ref mm), (1, .int (iI w)), (2, .int (iI a)), (3, .int (iI b)), (4, .int (iI x)), (5, .int (iI k))] → W p l e (lvl 2) s m [.ref mm, .int (iI w), .int (iI a), .int (iI b)].toArray below meth c s.heap [] 0 0 (MQ below (PQ (fun r => r = wLZ N R a b w)) [.ref mm, .int (iI w), .int (iI a), .int (iI b)].toArray s 0 0 (fun _ => False)) (F0 m 13 ls []) := by
    intro n
    induction n with
    | zero => intro x k v hv0 hv1 hxw hx0 hx1 hk hms; exfalso; omega
    | succ n ih =>
      intro x k v hv0 hv1 hxw hx0 hx1 hk hms ls hl
      have hpb := pw7_le (7 - v).toNat (by omega)
      have hkb : -1 ≤ k ∧ k ≤ 2 := by rcases hk with ⟨h, -⟩ | ⟨h, h2, -⟩ <;> omega
      refine lv_iload hx hb dX3_goesLeft_13 (lv_at hl 5 rfl) ?_
      refine zv_iconst hx hb dX3_goesLeft_15 ?_
      refine zv_icmp_eq hx hb dX3_goesLeft_16 (tgt := 50) (by decide) ⟨by omega, by omega⟩ ⟨by omega, by omega⟩ (fun c_2 => ?_) (fun c_2 => ?_)
      · refine lv_iload hx hb dX3_goesLeft_50 (lv_at hl 4 rfl) ?_
        exact PM_iret hx hb hr hlk dX3_goesLeft_52 (by rcases hk with ⟨-, h⟩ | ⟨h, -⟩ <;> first | (rw [← hxw, wLn_end h]; done) | (exfalso; omega))
      · rcases hk with ⟨hk1, -⟩ | ⟨hk0, hk1, y, hy0, hy1, hyN, hyr, hyn⟩
        · exact absurd hk1 (by assumption)
        refine lv_iload hx hb dX3_goesLeft_19 (lv_at hl 4 rfl) ?_
        refine zv_iconst hx hb dX3_goesLeft_21 ?_
        refine lv_iload hx hb dX3_goesLeft_22 (lv_at hl 5 rfl) ?_
        refine zv_imul hx hb dX3_goesLeft_24 ?_
        refine zv_iconst hx hb dX3_goesLeft_25 ?_
        refine zv_iadd hx hb dX3_goesLeft_26 ?_
        refine zc_S (As := [.int (iI x), .int (iI ((2 * k) + 1))]) (rest := []) (ws := [(mm, .inr (3, [.int (iI th), .int (iI C), .int (iI R), .int (iI lim), .int (iI np), .ref ac, .ref ar, .int (iI qb), .int (iI qs), .int (iI wd), .int (iI sm), .ref al, .ref aq, .ref ab])), (ac, .inl (cI, 3, .inl (aI gc))), (ar, .inl (cI, 3, .inl (aI gr)))]) (n := 2) hx hb (hml.trans hl.1.symm) hts hown hK hP (c_X3_joined l D cI cJ x ((2 * k) + 1) (by omega) (by omega) (by omega) (by omega)) (gd_S q_515 q_516 q_6 q_517) (by decide +kernel) rfl ⟨Nat.le_of_ble_eq_true rfl, Nat.le_of_ble_eq_true rfl⟩ ⟨Nat.zero_le _, Nat.zero_le _⟩ [] rfl rfl (Nat.le_of_ble_eq_true rfl) dX3_goesLeft_27 (fun r_3 hr_3 => ?_)
        subst hr_3
        refine lv_istore (lv' := [(4, .int (iI (wjZ x ((2 * k) + 1)))), (0, .ref mm), (1, .int (iI w)), (2, .int (iI a)), (3, .int (iI b)), (5, .int (iI k))]) hx hb dX3_goesLeft_30 hl (by decide) rfl (fun ls hl => ?_)
        refine lv_aload_n hx hb dX3_goesLeft_32 rfl (lv_at hl 1 rfl) ?_
        refine lv_iload_n hx hb dX3_goesLeft_33 rfl (lv_at hl 3 rfl) ?_
        refine lv_iload_n hx hb dX3_goesLeft_34 rfl (lv_at hl 4 rfl) ?_
        refine lv_aload_n hx hb dX3_goesLeft_35 rfl (lv_at hl 1 rfl) ?_
        refine va_get (D := D) (ci := 3) (v := .ref ar) (C := RX3) (T := TX3) (N := 14) hx hb hts uX3 hown hK.1 hP 0 rfl rfl 6 (by decide) (hts _ q_532) (fun _ h9 => h9) rfl dX3_goesLeft_36 ?_
        refine lv_iload hx hb dX3_goesLeft_39 (lv_at hl 5 rfl) ?_
        refine zv_iald hx hb hK.1 hP 2 0 rfl rfl (by omega) (by omega) (by omega) dX3_goesLeft_41 ?_
        refine zv_top (y := y) (hyr) ?_
        refine zc_V (As := [.int (iI a), .int (iI b), .int (iI y)]) (rest := []) (ws := [(mm, .inr (3, [.int (iI th), .int (iI C), .int (iI R), .int (iI lim), .int (iI np), .ref ac, .ref ar, .int (iI qb), .int (iI qs), .int (iI wd), .int (iI sm), .ref al, .ref aq, .ref ab])), (ac, .inl (cI, 3, .inl (aI gc))), (ar, .inl (cI, 3, .inl (aI gr)))]) (n := 3) hx hb (hml.trans hl.1.symm) hts hown hK hP (c_X3_pillarAbove l D cI cJ mm ac ar al aq ab th C R lim np qb qs wd sm gc gr N a b y hM (by omega) (by omega) (by omega) (by omega) (by omega) (by omega)) (gd_V q_522 q_524 q_1021 q_6 q_525) (by decide +kernel) rfl ⟨Nat.le_of_ble_eq_true rfl, Nat.le_of_ble_eq_true rfl⟩ ⟨Nat.zero_le _, Nat.zero_le _⟩ [0, 1, 2] rfl 0 (ci := 3) rfl rfl rfl rfl (Nat.le_of_ble_eq_true rfl) dX3_goesLeft_42 (fun r_4 hr_4 => ?_)
        refine lv_istore (lv' := [(5, .int (iI r_4)), (4, .int (iI (wjZ x ((2 * k) + 1)))), (0, .ref mm), (1, .int (iI w)), (2, .int (iI a)), (3, .int (iI b))]) hx hb dX3_goesLeft_45 hl (by decide) rfl (fun ls hl => ?_)
        refine lv_goto (tgt := 13) hx hb dX3_goesLeft_47 (by decide) ?_
        have hop : oppZ (2 * k) = 2 * k + 1 := by unfold oppZ; rw [if_pos (by omega)]
        have hwb := wjZ_b (w := x) (k := 2 * k + 1) hx0 hx1 (by omega) (by omega)
        have hpm := (pw7_mono (i := (7 - v).toNat + 1) (j := (7 - y).toNat) (by omega)).1
        have hpe : pw7 ((7 - v).toNat + 1) = 7 * pw7 (7 - v).toNat := rfl
        exact ih (wjZ x ((2 * k) + 1)) r_4 y (by omega) (by omega) (by rw [← hxw, wLn_to hy0 hy1 hyn (by omega), hyN, hop]) hwb.1 (by omega) (by assumption) (by omega) ls (lv_sub hl [2, 3, 4, 5, 1, 0] rfl)
  exact loop13 8 w r_1 7 (by omega) (by omega) (wLZ_7 hM (by omega) (by omega) (by omega)) (by omega) (by show _ < (343 : Int); omega) (by assumption) (by omega) ls (lv_sub hl [2, 3, 4, 5, 1, 0] rfl)
end
section
/-- the reference's lengths: at a place's number there -/
def MLen (L : Int → Int) (gl : Nat → Int) : Prop := (∀ z : Int, 0 ≤ z → z < 16807 → gl (tauZ z).toNat = L z) ∧ (∀ z : Int, -1 ≤ L z ∧ L z < 20000) ∧ ∀ z : Int, z < 0 ∨ 16807 ≤ z → L z = -1
theorem MLen.b {L : Int → Int} {gl : Nat → Int} (h : MLen L gl) (z : Int) : -1 ≤ L z ∧ L z < 20000 := h.2.1 z
theorem MLen.at {L : Int → Int} {gl : Nat → Int} (h : MLen L gl) {x : Int} (h0 : 0 ≤ x) (h1 : x < 16807) : gl x.toNat = L (tauZ x) := by
  have h2 := tauZ_of h0 h1
  have h3 := h.1 (tauZ x) h2.1 h2.2.1
  rw [tauZ_tauZ h0 h1] at h3
  exact h3
theorem tM_b {y : Int} (hy : y = -1 ∨ (0 ≤ y ∧ y < 16807)) : (tM y = -1 ∧ y = -1) ∨ (0 ≤ tM y ∧ tM y < 16807 ∧ 0 ≤ y ∧ y < 16807 ∧ tM y = tauZ y) := by
  unfold tM
  rcases hy with hy | ⟨h0, h1⟩
  · rw [if_pos hy]
    exact Or.inl ⟨rfl, hy⟩
  · rw [if_neg (by omega)]
    have := tauZ_of h0 h1
    exact Or.inr ⟨this.1, this.2.1, h0, h1, rfl⟩
theorem MLen.tm {L : Int → Int} {gl : Nat → Int} (h : MLen L gl) {y : Int} (hy : y = -1 ∨ (0 ≤ y ∧ y < 16807)) (hn : ¬ tM y = -1) : gl (tM y).toNat = L y := by
  rcases tM_b hy with ⟨h1, -⟩ | ⟨h0, h1, h2, h3, h4⟩
  · exact absurd h1 hn
  · rw [h4]
    exact h.1 y h2 h3
theorem tauZ_ok {R z : Int} (h0 : 0 ≤ z) (h1 : z < 16807) (h2 : z / 343 / 7 < R) : PlOK R (tauZ z) := by
  have := tauZ_of h0 h1
  exact ⟨this.1, this.2.1, by rw [this.2.2.2.1]; exact h2⟩
theorem maf_b {C R np : Int} {N : Int → Int} {gc gr : Nat → Int} (hM : MdOK C R np N gc gr) {x d : Int} (h0 : 0 ≤ x) (h1 : x < 16807) (h2 : x / 343 / 7 < R) : aftZ C R N (tauZ x) d = -1 ∨ (0 ≤ aftZ C R N (tauZ x) d ∧ aftZ C R N (tauZ x) d < 16807) := by
  rcases aftZ_ok hM.Fl (d := d) (tauZ_ok h0 h1 h2) with h | ⟨h, h', -⟩
  · exact Or.inl h
  · exact Or.inr ⟨h, h'⟩
theorem maf_0 {C R : Int} {N : Int → Int} {x : Int} (hC : C ≤ 7) (hR : R ≤ 7) (h0 : 0 ≤ x) (h1 : x < 16807) : tM (aftZ C R N (tauZ x) 0) = if x % 343 < 343 ∧ 0 ≤ x / 343 % 7 ∧ x / 343 % 7 < C ∧ 0 ≤ x / 343 / 7 - 1 ∧ x / 343 / 7 - 1 < R ∧ N (x / 343 % 7 * 7 + (x / 343 / 7 - 1)) = -1 then 343 * (7 * (x / 343 / 7 - 1) + x / 343 % 7) + x % 343 else -1 := by
  obtain ⟨-, -, e1, e2, e3, -⟩ := tauZ_of h0 h1
  rw [aftZ_0, e1, e2, e3, tM_pl hC hR (by omega)]
theorem maf_1 {C R np : Int} {N : Int → Int} {gc gr : Nat → Int} (hM : MdOK C R np N gc gr) {x : Int} (h0 : 0 ≤ x) (h1 : x < 16807) : tM (aftZ C R N (tauZ x) 1) = if wRZ N R (x / 343 % 7) (x / 343 / 7) (x % 343) < 343 ∧ 0 ≤ x / 343 % 7 + 1 ∧ x / 343 % 7 + 1 < C ∧ 0 ≤ x / 343 / 7 ∧ x / 343 / 7 < R ∧ N ((x / 343 % 7 + 1) * 7 + x / 343 / 7) = -1 then 343 * (7 * (x / 343 / 7) + (x / 343 % 7 + 1)) + wRZ N R (x / 343 % 7) (x / 343 / 7) (x % 343) else -1 := by
  obtain ⟨-, -, e1, e2, e3, -⟩ := tauZ_of h0 h1
  have hw := wRZ_b hM.Fl (c := x / 343 % 7) (r := x / 343 / 7) (w := x % 343) (by omega) (by omega) (by omega)
  rw [aftZ_1, e1, e2, e3, tM_pl hM.2.1 hM.2.2.2.1 hw.1]
theorem maf_2 {C R : Int} {N : Int → Int} {x : Int} (hC : C ≤ 7) (hR : R ≤ 7) (h0 : 0 ≤ x) (h1 : x < 16807) : tM (aftZ C R N (tauZ x) 2) = if x % 343 < 343 ∧ 0 ≤ x / 343 % 7 ∧ x / 343 % 7 < C ∧ 0 ≤ x / 343 / 7 + 1 ∧ x / 343 / 7 + 1 < R ∧ N (x / 343 % 7 * 7 + (x / 343 / 7 + 1)) = -1 then 343 * (7 * (x / 343 / 7 + 1) + x / 343 % 7) + x % 343 else -1 := by
  obtain ⟨-, -, e1, e2, e3, -⟩ := tauZ_of h0 h1
  rw [aftZ_2, e1, e2, e3, tM_pl hC hR (by omega)]
theorem maf_3 {C R np : Int} {N : Int → Int} {gc gr : Nat → Int} (hM : MdOK C R np N gc gr) {x : Int} (h0 : 0 ≤ x) (h1 : x < 16807) : tM (aftZ C R N (tauZ x) 3) = if wLZ N R (x / 343 % 7 - 1) (x / 343 / 7) (x % 343) < 343 ∧ 0 ≤ x / 343 % 7 - 1 ∧ x / 343 % 7 - 1 < C ∧ 0 ≤ x / 343 / 7 ∧ x / 343 / 7 < R ∧ N ((x / 343 % 7 - 1) * 7 + x / 343 / 7) = -1 then 343 * (7 * (x / 343 / 7) + (x / 343 % 7 - 1)) + wLZ N R (x / 343 % 7 - 1) (x / 343 / 7) (x % 343) else -1 := by
  obtain ⟨-, -, e1, e2, e3, -⟩ := tauZ_of h0 h1
  have hw := wLZ_b hM.Fl (c := x / 343 % 7 - 1) (r := x / 343 / 7) (w := x % 343) (by omega) (by omega) (by omega)
  rw [aftZ_3, e1, e2, e3, tM_pl hM.2.1 hM.2.2.2.1 hw.1]
theorem cdZ_at {C R : Int} {N L : Int → Int} {z d : Int} (h0 : 0 ≤ d) (h3 : d ≤ 3) (h1 : ¬ L z < 1) (hno : ∀ i, 0 ≤ i → i < d → L (aftZ C R N z i) ≠ L z - 1) (he : L (aftZ C R N z d) = L z - 1) : d = cdZ C R N L z := by
  unfold cdZ
  rcases (show d = 0 ∨ d = 1 ∨ d = 2 ∨ d = 3 by omega) with rfl | rfl | rfl | rfl
  · rw [if_neg h1, if_pos he]
  · rw [if_neg h1, if_neg (hno 0 (by omega) (by omega)), if_pos he]
  · rw [if_neg h1, if_neg (hno 0 (by omega) (by omega)), if_neg (hno 1 (by omega) (by omega)), if_pos he]
  · rw [if_neg h1, if_neg (hno 0 (by omega) (by omega)), if_neg (hno 1 (by omega) (by omega)), if_neg (hno 2 (by omega) (by omega)), if_pos he]
theorem cdZ_lo {C R : Int} {N L : Int → Int} {z : Int} (h1 : L z < 1) : -1 = cdZ C R N L z := by
  unfold cdZ
  rw [if_pos h1]
theorem cdZ_no {C R : Int} {N L : Int → Int} {z : Int} (h1 : ¬ L z < 1) (hno : ∀ i, 0 ≤ i → i < 4 → L (aftZ C R N z i) ≠ L z - 1) : -1 = cdZ C R N L z := by
  unfold cdZ
  rw [if_neg h1, if_neg (hno 0 (by omega) (by omega)), if_neg (hno 1 (by omega) (by omega)), if_neg (hno 2 (by omega) (by omega)), if_neg (hno 3 (by omega) (by omega))]
theorem ilt {i d : Int} (h : i < d + 1) : i < d ∨ i = d := by omega
theorem lsN_b2 {L : Int → Int} (h : ∀ z : Int, -1 ≤ L z ∧ L z < 20000) (q : Int) : ∀ n : Nat, -1 ≤ lsN L q n ∧ lsN L q n < 20000 := by
  intro n
  induction n with
  | zero => unfold lsN; omega
  | succ n ih =>
    have := h (q * 343 + n)
    unfold lsN
    split <;> assumption
end
section
set_option maxRecDepth 100000 in
set_option maxHeartbeats 4000000 in
theorem c_X3_after (l : Launch) (D : va_G) (cI cJ : ClassId) (mm ac ar al aq ab : Nat) (th C R lim np qb qs wd sm : Int) (gc gr : Nat → Int) (N : Int → Int) (x d : Int) (hM : MdOK C R np N gc gr) (hx0 : 0 ≤ x) (hx1 : x < 16807) (hxr : x / 343 / 7 < R) (hd0 : 0 ≤ d) (hd1 : d ≤ 3) : PM l yX3_after (.code yX3_after cX3_after 8 (some .int)) 3 [.ref mm, .int (iI x), .int (iI d)] D cI cJ [(mm, .inr (3, [.int (iI th), .int (iI C), .int (iI R), .int (iI lim), .int (iI np), .ref ac, .ref ar, .int (iI qb), .int (iI qs), .int (iI wd), .int (iI sm), .ref al, .ref aq, .ref ab])), (ac, .inl (cI, 3, .inl (aI gc))), (ar, .inl (cI, 3, .inl (aI gr)))] (fun r => r = tM (aftZ C R N (tauZ x) d)) := by
  obtain ⟨hC1, hC2, hR1, hR2, hp1, hp2, -, -⟩ := id hM
  have hwb := wRZ_b hM.Fl (c := x / 343 % 7) (r := x / 343 / 7) (w := x % 343) (by omega) (by omega) (by omega)
  have hwc := wLZ_b hM.Fl (c := x / 343 % 7 - 1) (r := x / 343 / 7) (w := x % 343) (by omega) (by omega) (by omega)
  refine PM_of (by decide) rfl (Nat.le_of_ble_eq_true rfl) (fun p e s m below meth c ls hx hb hr hts hown hlk hml hK hP hl => ?_)
  have hl : lv_has ls 8 [(0, .ref mm), (1, .int (iI x)), (2, .int (iI d))] := hl
  refine lv_iload_n hx hb dX3_after_0 rfl (lv_at hl 1 rfl) ?_
  refine zv_sipush hx hb dX3_after_1 (by decide) ?_
  refine zv_idiv hx hb dX3_after_4 (by omega) (by omega) (by omega) (by omega) ?_
  refine lv_istore_n (lv' := [(3, .int (iI (x / 343))), (0, .ref mm), (1, .int (iI x)), (2, .int (iI d))]) hx hb dX3_after_5 rfl hl (by decide) rfl (fun ls hl => ?_)
  refine lv_iload_n hx hb dX3_after_6 rfl (lv_at hl 2 rfl) ?_
  refine zv_sipush hx hb dX3_after_7 (by decide) ?_
  refine zv_irem hx hb dX3_after_10 (by omega) (by omega) (by omega) (by omega) ?_
  refine lv_istore (lv' := [(4, .int (iI (x % 343))), (3, .int (iI (x / 343))), (0, .ref mm), (1, .int (iI x)), (2, .int (iI d))]) hx hb dX3_after_11 hl (by decide) rfl (fun ls hl => ?_)
  rcases (show d = 0 ∨ d = 1 ∨ d = 2 ∨ d = 3 by omega) with rfl | rfl | rfl | rfl
  · skip
    refine lv_iload_n hx hb dX3_after_13 rfl (lv_at hl 1 rfl) ?_
    refine zv_bipush hx hb dX3_after_14 (by decide) ?_
    refine zv_irem hx hb dX3_after_16 (by omega) (by omega) (by omega) (by omega) ?_
    refine lv_iload_n hx hb dX3_after_17 rfl (lv_at hl 4 rfl) ?_
    refine zv_iconst hx hb dX3_after_18 ?_
    refine zv_icmp_ne hx hb dX3_after_19 (tgt := 26) (by decide) ⟨by omega, by omega⟩ ⟨by omega, by omega⟩ (fun c_1 => ?_) (fun c_1 => by exfalso; omega)
    refine lv_iload_n hx hb dX3_after_26 rfl (lv_at hl 4 rfl) ?_
    refine zv_iconst hx hb dX3_after_27 ?_
    refine zv_icmp_ne hx hb dX3_after_28 (tgt := 35) (by decide) ⟨by omega, by omega⟩ ⟨by omega, by omega⟩ (fun c_2 => ?_) (fun c_2 => by exfalso; omega)
    refine zv_iconst hx hb dX3_after_35 ?_
    refine zv_iadd hx hb dX3_after_36 ?_
    refine zv_top (y := x / 343 % 7) (by omega) ?_
    refine lv_istore (lv' := [(5, .int (iI (x / 343 % 7))), (4, .int (iI (x % 343))), (3, .int (iI (x / 343))), (0, .ref mm), (1, .int (iI x)), (2, .int (iI 0))]) hx hb dX3_after_37 hl (by decide) rfl (fun ls hl => ?_)
    refine lv_iload_n hx hb dX3_after_39 rfl (lv_at hl 2 rfl) ?_
    refine zv_bipush hx hb dX3_after_40 (by decide) ?_
    refine zv_idiv hx hb dX3_after_42 (by omega) (by omega) (by omega) (by omega) ?_
    refine lv_iload_n hx hb dX3_after_43 rfl (lv_at hl 5 rfl) ?_
    refine zv_iconst hx hb dX3_after_44 ?_
    refine zv_icmp_ne hx hb dX3_after_45 (tgt := 52) (by decide) ⟨by omega, by omega⟩ ⟨by omega, by omega⟩ (fun c_3 => ?_) (fun c_3 => by exfalso; omega)
    refine lv_iload_n hx hb dX3_after_52 rfl (lv_at hl 5 rfl) ?_
    refine zv_if_ne hx hb dX3_after_53 (tgt := 60) (by decide) ⟨by omega, by omega⟩ (fun c_4 => by exfalso; omega) (fun c_4 => ?_)
    refine zv_iconst hx hb dX3_after_56 ?_
    refine lv_goto (tgt := 61) hx hb dX3_after_57 (by decide) ?_
    refine zv_iadd hx hb dX3_after_61 ?_
    refine zv_top (y := x / 343 / 7 - 1) (by omega) ?_
    refine lv_istore (lv' := [(6, .int (iI (x / 343 / 7 - 1))), (5, .int (iI (x / 343 % 7))), (4, .int (iI (x % 343))), (3, .int (iI (x / 343))), (0, .ref mm), (1, .int (iI x)), (2, .int (iI 0))]) hx hb dX3_after_62 hl (by decide) rfl (fun ls hl => ?_)
    refine lv_aload_n hx hb dX3_after_64 rfl (lv_at hl 4 rfl) ?_
    refine lv_iload hx hb dX3_after_65 (lv_at hl 1 rfl) ?_
    refine lv_iload hx hb dX3_after_67 (lv_at hl 0 rfl) ?_
    refine zc_V (As := [.int (iI (x / 343 % 7)), .int (iI (x / 343 / 7 - 1))]) (rest := []) (ws := [(mm, .inr (3, [.int (iI th), .int (iI C), .int (iI R), .int (iI lim), .int (iI np), .ref ac, .ref ar, .int (iI qb), .int (iI qs), .int (iI wd), .int (iI sm), .ref al, .ref aq, .ref ab])), (ac, .inl (cI, 3, .inl (aI gc))), (ar, .inl (cI, 3, .inl (aI gr)))]) (n := 2) hx hb (hml.trans hl.1.symm) hts hown hK hP (c_X3_isSquare l D cI cJ mm ac ar al aq ab th C R lim np qb qs wd sm gc gr N (x / 343 % 7) (x / 343 / 7 - 1) hM (by omega) (by omega) (by omega) (by omega)) (gd_V q_493 q_495 q_1016 q_6 q_496) (by decide +kernel) rfl ⟨Nat.le_of_ble_eq_true rfl, Nat.le_of_ble_eq_true rfl⟩ ⟨Nat.zero_le _, Nat.zero_le _⟩ [0, 1, 2] rfl 0 (ci := 3) rfl rfl rfl rfl (Nat.le_of_ble_eq_true rfl) dX3_after_69 (fun r_5 hr_5 => ?_)
    refine zv_if_eq hx hb dX3_after_72 (tgt := 89) (by decide) ⟨by omega, by omega⟩ (fun c_6 => ?_) (fun c_6 => ?_)
    · refine zv_iconst hx hb dX3_after_89 ?_
      exact PM_iret hx hb hr hlk dX3_after_90 (by (first | rw [maf_0 hC2 hR2 hx0 hx1] | rw [maf_1 hM hx0 hx1] | rw [maf_2 hC2 hR2 hx0 hx1] | rw [maf_3 hM hx0 hx1]); first | (rw [if_neg (by omega)]; done) | (rw [if_pos (by omega)]; try omega))
    · refine lv_aload_n hx hb dX3_after_75 rfl (lv_at hl 4 rfl) ?_
      refine lv_iload hx hb dX3_after_76 (lv_at hl 1 rfl) ?_
      refine lv_iload hx hb dX3_after_78 (lv_at hl 0 rfl) ?_
      refine zc_S (As := [.int (iI (x / 343 % 7)), .int (iI (x / 343 / 7 - 1))]) (rest := [.ref mm]) (ws := [(mm, .inr (3, [.int (iI th), .int (iI C), .int (iI R), .int (iI lim), .int (iI np), .ref ac, .ref ar, .int (iI qb), .int (iI qs), .int (iI wd), .int (iI sm), .ref al, .ref aq, .ref ab])), (ac, .inl (cI, 3, .inl (aI gc))), (ar, .inl (cI, 3, .inl (aI gr)))]) (n := 2) hx hb (hml.trans hl.1.symm) hts hown hK hP (c_X3_squareOf l D cI cJ (x / 343 % 7) (x / 343 / 7 - 1)) (gd_S q_500 q_501 q_6 q_502) (by decide +kernel) rfl ⟨Nat.le_of_ble_eq_true rfl, Nat.le_of_ble_eq_true rfl⟩ ⟨Nat.zero_le _, Nat.zero_le _⟩ [] rfl rfl (Nat.le_of_ble_eq_true rfl) dX3_after_80 (fun r_7 hr_7 => ?_)
      subst hr_7
      refine zc_V (As := [.int (iI (7 * (x / 343 / 7 - 1) + (x / 343 % 7)))]) (rest := []) (ws := [(mm, .inr (3, [.int (iI th), .int (iI C), .int (iI R), .int (iI lim), .int (iI np), .ref ac, .ref ar, .int (iI qb), .int (iI qs), .int (iI wd), .int (iI sm), .ref al, .ref aq, .ref ab])), (ac, .inl (cI, 3, .inl (aI gc))), (ar, .inl (cI, 3, .inl (aI gr)))]) (n := 1) hx hb (hml.trans hl.1.symm) hts hown hK hP (c_X3_isPillar l D cI cJ mm ac ar al aq ab th C R lim np qb qs wd sm gc gr N (7 * (x / 343 / 7 - 1) + (x / 343 % 7)) hM (by omega) (by omega)) (gd_V q_503 q_505 q_1017 q_6 q_506) (by decide +kernel) rfl ⟨Nat.le_of_ble_eq_true rfl, Nat.le_of_ble_eq_true rfl⟩ ⟨Nat.zero_le _, Nat.zero_le _⟩ [0, 1, 2] rfl 0 (ci := 3) rfl rfl rfl rfl (Nat.le_of_ble_eq_true rfl) dX3_after_83 (fun r_8 hr_8 => ?_)
      have hpq := hr_8.2 (x / 343 % 7) (x / 343 / 7 - 1) (by omega) (by omega) (by omega) (by omega) (by omega)
      refine zv_if_eq hx hb dX3_after_86 (tgt := 91) (by decide) ⟨by omega, by omega⟩ (fun c_9 => ?_) (fun c_9 => ?_)
      · refine lv_iload_n hx hb dX3_after_91 rfl (lv_at hl 6 rfl) ?_
        refine zv_iconst hx hb dX3_after_92 ?_
        refine zv_icmp_ne hx hb dX3_after_93 (tgt := 111) (by decide) ⟨by omega, by omega⟩ ⟨by omega, by omega⟩ (fun c_10 => ?_) (fun c_10 => by exfalso; omega)
        refine lv_iload_n hx hb dX3_after_111 rfl (lv_at hl 6 rfl) ?_
        refine zv_iconst hx hb dX3_after_112 ?_
        refine zv_icmp_ne hx hb dX3_after_113 (tgt := 129) (by decide) ⟨by omega, by omega⟩ ⟨by omega, by omega⟩ (fun c_11 => ?_) (fun c_11 => by exfalso; omega)
        refine lv_iload hx hb dX3_after_129 (lv_at hl 2 rfl) ?_
        refine lv_istore (lv' := [(7, .int (iI (x % 343))), (6, .int (iI (x / 343 / 7 - 1))), (5, .int (iI (x / 343 % 7))), (4, .int (iI (x % 343))), (3, .int (iI (x / 343))), (0, .ref mm), (1, .int (iI x)), (2, .int (iI 0))]) hx hb dX3_after_131 hl (by decide) rfl (fun ls hl => ?_)
        refine lv_iload hx hb dX3_after_133 (lv_at hl 0 rfl) ?_
        refine zv_sipush hx hb dX3_after_135 (by decide) ?_
        refine zv_icmp_ge hx hb dX3_after_138 (tgt := 158) (by decide) ⟨by omega, by omega⟩ ⟨by omega, by omega⟩ (fun c_12 => ?_) (fun c_12 => ?_)
        · refine zv_iconst hx hb dX3_after_158 ?_
          exact PM_iret hx hb hr hlk dX3_after_159 (by (first | rw [maf_0 hC2 hR2 hx0 hx1] | rw [maf_1 hM hx0 hx1] | rw [maf_2 hC2 hR2 hx0 hx1] | rw [maf_3 hM hx0 hx1]); first | (rw [if_neg (by omega)]; done) | (rw [if_pos (by omega)]; try omega))
        · refine zv_sipush hx hb dX3_after_141 (by decide) ?_
          refine lv_iload hx hb dX3_after_144 (lv_at hl 2 rfl) ?_
          refine lv_iload hx hb dX3_after_146 (lv_at hl 1 rfl) ?_
          refine zc_S (As := [.int (iI (x / 343 % 7)), .int (iI (x / 343 / 7 - 1))]) (rest := [.int (iI 343)]) (ws := [(mm, .inr (3, [.int (iI th), .int (iI C), .int (iI R), .int (iI lim), .int (iI np), .ref ac, .ref ar, .int (iI qb), .int (iI qs), .int (iI wd), .int (iI sm), .ref al, .ref aq, .ref ab])), (ac, .inl (cI, 3, .inl (aI gc))), (ar, .inl (cI, 3, .inl (aI gr)))]) (n := 2) hx hb (hml.trans hl.1.symm) hts hown hK hP (c_X3_squareOf l D cI cJ (x / 343 % 7) (x / 343 / 7 - 1)) (gd_S q_500 q_501 q_6 q_502) (by decide +kernel) rfl ⟨Nat.le_of_ble_eq_true rfl, Nat.le_of_ble_eq_true rfl⟩ ⟨Nat.zero_le _, Nat.zero_le _⟩ [] rfl rfl (Nat.le_of_ble_eq_true rfl) dX3_after_148 (fun r_13 hr_13 => ?_)
          subst hr_13
          refine zv_imul hx hb dX3_after_151 ?_
          refine lv_iload hx hb dX3_after_152 (lv_at hl 0 rfl) ?_
          refine zv_iadd hx hb dX3_after_154 ?_
          refine lv_goto (tgt := 159) hx hb dX3_after_155 (by decide) ?_
          exact PM_iret hx hb hr hlk dX3_after_159 (by (first | rw [maf_0 hC2 hR2 hx0 hx1] | rw [maf_1 hM hx0 hx1] | rw [maf_2 hC2 hR2 hx0 hx1] | rw [maf_3 hM hx0 hx1]); first | (rw [if_neg (by omega)]; done) | (rw [if_pos (by omega)]; try omega))
      · refine zv_iconst hx hb dX3_after_89 ?_
        exact PM_iret hx hb hr hlk dX3_after_90 (by (first | rw [maf_0 hC2 hR2 hx0 hx1] | rw [maf_1 hM hx0 hx1] | rw [maf_2 hC2 hR2 hx0 hx1] | rw [maf_3 hM hx0 hx1]); first | (rw [if_neg (by omega)]; done) | (rw [if_pos (by omega)]; try omega))
  · skip
    refine lv_iload_n hx hb dX3_after_13 rfl (lv_at hl 1 rfl) ?_
    refine zv_bipush hx hb dX3_after_14 (by decide) ?_
    refine zv_irem hx hb dX3_after_16 (by omega) (by omega) (by omega) (by omega) ?_
    refine lv_iload_n hx hb dX3_after_17 rfl (lv_at hl 4 rfl) ?_
    refine zv_iconst hx hb dX3_after_18 ?_
    refine zv_icmp_ne hx hb dX3_after_19 (tgt := 26) (by decide) ⟨by omega, by omega⟩ ⟨by omega, by omega⟩ (fun c_14 => by exfalso; omega) (fun c_14 => ?_)
    refine zv_iconst hx hb dX3_after_22 ?_
    refine lv_goto (tgt := 36) hx hb dX3_after_23 (by decide) ?_
    refine zv_iadd hx hb dX3_after_36 ?_
    refine zv_top (y := x / 343 % 7 + 1) (by omega) ?_
    refine lv_istore (lv' := [(5, .int (iI (x / 343 % 7 + 1))), (4, .int (iI (x % 343))), (3, .int (iI (x / 343))), (0, .ref mm), (1, .int (iI x)), (2, .int (iI 1))]) hx hb dX3_after_37 hl (by decide) rfl (fun ls hl => ?_)
    refine lv_iload_n hx hb dX3_after_39 rfl (lv_at hl 2 rfl) ?_
    refine zv_bipush hx hb dX3_after_40 (by decide) ?_
    refine zv_idiv hx hb dX3_after_42 (by omega) (by omega) (by omega) (by omega) ?_
    refine lv_iload_n hx hb dX3_after_43 rfl (lv_at hl 5 rfl) ?_
    refine zv_iconst hx hb dX3_after_44 ?_
    refine zv_icmp_ne hx hb dX3_after_45 (tgt := 52) (by decide) ⟨by omega, by omega⟩ ⟨by omega, by omega⟩ (fun c_15 => ?_) (fun c_15 => by exfalso; omega)
    refine lv_iload_n hx hb dX3_after_52 rfl (lv_at hl 5 rfl) ?_
    refine zv_if_ne hx hb dX3_after_53 (tgt := 60) (by decide) ⟨by omega, by omega⟩ (fun c_16 => ?_) (fun c_16 => by exfalso; omega)
    refine zv_iconst hx hb dX3_after_60 ?_
    refine zv_iadd hx hb dX3_after_61 ?_
    refine zv_top (y := x / 343 / 7) (by omega) ?_
    refine lv_istore (lv' := [(6, .int (iI (x / 343 / 7))), (5, .int (iI (x / 343 % 7 + 1))), (4, .int (iI (x % 343))), (3, .int (iI (x / 343))), (0, .ref mm), (1, .int (iI x)), (2, .int (iI 1))]) hx hb dX3_after_62 hl (by decide) rfl (fun ls hl => ?_)
    refine lv_aload_n hx hb dX3_after_64 rfl (lv_at hl 4 rfl) ?_
    refine lv_iload hx hb dX3_after_65 (lv_at hl 1 rfl) ?_
    refine lv_iload hx hb dX3_after_67 (lv_at hl 0 rfl) ?_
    refine zc_V (As := [.int (iI (x / 343 % 7 + 1)), .int (iI (x / 343 / 7))]) (rest := []) (ws := [(mm, .inr (3, [.int (iI th), .int (iI C), .int (iI R), .int (iI lim), .int (iI np), .ref ac, .ref ar, .int (iI qb), .int (iI qs), .int (iI wd), .int (iI sm), .ref al, .ref aq, .ref ab])), (ac, .inl (cI, 3, .inl (aI gc))), (ar, .inl (cI, 3, .inl (aI gr)))]) (n := 2) hx hb (hml.trans hl.1.symm) hts hown hK hP (c_X3_isSquare l D cI cJ mm ac ar al aq ab th C R lim np qb qs wd sm gc gr N (x / 343 % 7 + 1) (x / 343 / 7) hM (by omega) (by omega) (by omega) (by omega)) (gd_V q_493 q_495 q_1016 q_6 q_496) (by decide +kernel) rfl ⟨Nat.le_of_ble_eq_true rfl, Nat.le_of_ble_eq_true rfl⟩ ⟨Nat.zero_le _, Nat.zero_le _⟩ [0, 1, 2] rfl 0 (ci := 3) rfl rfl rfl rfl (Nat.le_of_ble_eq_true rfl) dX3_after_69 (fun r_17 hr_17 => ?_)
    refine zv_if_eq hx hb dX3_after_72 (tgt := 89) (by decide) ⟨by omega, by omega⟩ (fun c_18 => ?_) (fun c_18 => ?_)
    · refine zv_iconst hx hb dX3_after_89 ?_
      exact PM_iret hx hb hr hlk dX3_after_90 (by (first | rw [maf_0 hC2 hR2 hx0 hx1] | rw [maf_1 hM hx0 hx1] | rw [maf_2 hC2 hR2 hx0 hx1] | rw [maf_3 hM hx0 hx1]); first | (rw [if_neg (by omega)]; done) | (rw [if_pos (by omega)]; try omega))
    · refine lv_aload_n hx hb dX3_after_75 rfl (lv_at hl 4 rfl) ?_
      refine lv_iload hx hb dX3_after_76 (lv_at hl 1 rfl) ?_
      refine lv_iload hx hb dX3_after_78 (lv_at hl 0 rfl) ?_
      refine zc_S (As := [.int (iI (x / 343 % 7 + 1)), .int (iI (x / 343 / 7))]) (rest := [.ref mm]) (ws := [(mm, .inr (3, [.int (iI th), .int (iI C), .int (iI R), .int (iI lim), .int (iI np), .ref ac, .ref ar, .int (iI qb), .int (iI qs), .int (iI wd), .int (iI sm), .ref al, .ref aq, .ref ab])), (ac, .inl (cI, 3, .inl (aI gc))), (ar, .inl (cI, 3, .inl (aI gr)))]) (n := 2) hx hb (hml.trans hl.1.symm) hts hown hK hP (c_X3_squareOf l D cI cJ (x / 343 % 7 + 1) (x / 343 / 7)) (gd_S q_500 q_501 q_6 q_502) (by decide +kernel) rfl ⟨Nat.le_of_ble_eq_true rfl, Nat.le_of_ble_eq_true rfl⟩ ⟨Nat.zero_le _, Nat.zero_le _⟩ [] rfl rfl (Nat.le_of_ble_eq_true rfl) dX3_after_80 (fun r_19 hr_19 => ?_)
      subst hr_19
      refine zc_V (As := [.int (iI (7 * (x / 343 / 7) + (x / 343 % 7 + 1)))]) (rest := []) (ws := [(mm, .inr (3, [.int (iI th), .int (iI C), .int (iI R), .int (iI lim), .int (iI np), .ref ac, .ref ar, .int (iI qb), .int (iI qs), .int (iI wd), .int (iI sm), .ref al, .ref aq, .ref ab])), (ac, .inl (cI, 3, .inl (aI gc))), (ar, .inl (cI, 3, .inl (aI gr)))]) (n := 1) hx hb (hml.trans hl.1.symm) hts hown hK hP (c_X3_isPillar l D cI cJ mm ac ar al aq ab th C R lim np qb qs wd sm gc gr N (7 * (x / 343 / 7) + (x / 343 % 7 + 1)) hM (by omega) (by omega)) (gd_V q_503 q_505 q_1017 q_6 q_506) (by decide +kernel) rfl ⟨Nat.le_of_ble_eq_true rfl, Nat.le_of_ble_eq_true rfl⟩ ⟨Nat.zero_le _, Nat.zero_le _⟩ [0, 1, 2] rfl 0 (ci := 3) rfl rfl rfl rfl (Nat.le_of_ble_eq_true rfl) dX3_after_83 (fun r_20 hr_20 => ?_)
      have hpq := hr_20.2 (x / 343 % 7 + 1) (x / 343 / 7) (by omega) (by omega) (by omega) (by omega) (by omega)
      refine zv_if_eq hx hb dX3_after_86 (tgt := 91) (by decide) ⟨by omega, by omega⟩ (fun c_21 => ?_) (fun c_21 => ?_)
      · refine lv_iload_n hx hb dX3_after_91 rfl (lv_at hl 6 rfl) ?_
        refine zv_iconst hx hb dX3_after_92 ?_
        refine zv_icmp_ne hx hb dX3_after_93 (tgt := 111) (by decide) ⟨by omega, by omega⟩ ⟨by omega, by omega⟩ (fun c_22 => by exfalso; omega) (fun c_22 => ?_)
        refine lv_aload_n hx hb dX3_after_96 rfl (lv_at hl 4 rfl) ?_
        refine lv_iload hx hb dX3_after_97 (lv_at hl 2 rfl) ?_
        refine lv_iload hx hb dX3_after_99 (lv_at hl 1 rfl) ?_
        refine zv_iconst hx hb dX3_after_101 ?_
        refine zv_isub hx hb dX3_after_102 ?_
        refine zv_top (y := x / 343 % 7) (by omega) ?_
        refine lv_iload hx hb dX3_after_103 (lv_at hl 0 rfl) ?_
        refine zc_V (As := [.int (iI (x % 343)), .int (iI (x / 343 % 7)), .int (iI (x / 343 / 7))]) (rest := []) (ws := [(mm, .inr (3, [.int (iI th), .int (iI C), .int (iI R), .int (iI lim), .int (iI np), .ref ac, .ref ar, .int (iI qb), .int (iI qs), .int (iI wd), .int (iI sm), .ref al, .ref aq, .ref ab])), (ac, .inl (cI, 3, .inl (aI gc))), (ar, .inl (cI, 3, .inl (aI gr)))]) (n := 3) hx hb (hml.trans hl.1.symm) hts hown hK hP (c_X3_goesRight l D cI cJ mm ac ar al aq ab th C R lim np qb qs wd sm gc gr N (x % 343) (x / 343 % 7) (x / 343 / 7) hM (by omega) (by omega) (by omega) (by omega) (by omega) (by omega)) (gd_V q_507 q_509 q_1018 q_6 q_510) (by decide +kernel) rfl ⟨Nat.le_of_ble_eq_true rfl, Nat.le_of_ble_eq_true rfl⟩ ⟨Nat.zero_le _, Nat.zero_le _⟩ [0, 1, 2] rfl 0 (ci := 3) rfl rfl rfl rfl (Nat.le_of_ble_eq_true rfl) dX3_after_105 (fun r_23 hr_23 => ?_)
        subst hr_23
        refine lv_goto (tgt := 131) hx hb dX3_after_108 (by decide) ?_
        refine lv_istore (lv' := [(7, .int (iI (wRZ N R (x / 343 % 7) (x / 343 / 7) (x % 343)))), (6, .int (iI (x / 343 / 7))), (5, .int (iI (x / 343 % 7 + 1))), (4, .int (iI (x % 343))), (3, .int (iI (x / 343))), (0, .ref mm), (1, .int (iI x)), (2, .int (iI 1))]) hx hb dX3_after_131 hl (by decide) rfl (fun ls hl => ?_)
        refine lv_iload hx hb dX3_after_133 (lv_at hl 0 rfl) ?_
        refine zv_sipush hx hb dX3_after_135 (by decide) ?_
        refine zv_icmp_ge hx hb dX3_after_138 (tgt := 158) (by decide) ⟨by omega, by omega⟩ ⟨by omega, by omega⟩ (fun c_24 => ?_) (fun c_24 => ?_)
        · refine zv_iconst hx hb dX3_after_158 ?_
          exact PM_iret hx hb hr hlk dX3_after_159 (by (first | rw [maf_0 hC2 hR2 hx0 hx1] | rw [maf_1 hM hx0 hx1] | rw [maf_2 hC2 hR2 hx0 hx1] | rw [maf_3 hM hx0 hx1]); first | (rw [if_neg (by omega)]; done) | (rw [if_pos (by omega)]; try omega))
        · refine zv_sipush hx hb dX3_after_141 (by decide) ?_
          refine lv_iload hx hb dX3_after_144 (lv_at hl 2 rfl) ?_
          refine lv_iload hx hb dX3_after_146 (lv_at hl 1 rfl) ?_
          refine zc_S (As := [.int (iI (x / 343 % 7 + 1)), .int (iI (x / 343 / 7))]) (rest := [.int (iI 343)]) (ws := [(mm, .inr (3, [.int (iI th), .int (iI C), .int (iI R), .int (iI lim), .int (iI np), .ref ac, .ref ar, .int (iI qb), .int (iI qs), .int (iI wd), .int (iI sm), .ref al, .ref aq, .ref ab])), (ac, .inl (cI, 3, .inl (aI gc))), (ar, .inl (cI, 3, .inl (aI gr)))]) (n := 2) hx hb (hml.trans hl.1.symm) hts hown hK hP (c_X3_squareOf l D cI cJ (x / 343 % 7 + 1) (x / 343 / 7)) (gd_S q_500 q_501 q_6 q_502) (by decide +kernel) rfl ⟨Nat.le_of_ble_eq_true rfl, Nat.le_of_ble_eq_true rfl⟩ ⟨Nat.zero_le _, Nat.zero_le _⟩ [] rfl rfl (Nat.le_of_ble_eq_true rfl) dX3_after_148 (fun r_25 hr_25 => ?_)
          subst hr_25
          refine zv_imul hx hb dX3_after_151 ?_
          refine lv_iload hx hb dX3_after_152 (lv_at hl 0 rfl) ?_
          refine zv_iadd hx hb dX3_after_154 ?_
          refine lv_goto (tgt := 159) hx hb dX3_after_155 (by decide) ?_
          exact PM_iret hx hb hr hlk dX3_after_159 (by (first | rw [maf_0 hC2 hR2 hx0 hx1] | rw [maf_1 hM hx0 hx1] | rw [maf_2 hC2 hR2 hx0 hx1] | rw [maf_3 hM hx0 hx1]); first | (rw [if_neg (by omega)]; done) | (rw [if_pos (by omega)]; try omega))
      · refine zv_iconst hx hb dX3_after_89 ?_
        exact PM_iret hx hb hr hlk dX3_after_90 (by (first | rw [maf_0 hC2 hR2 hx0 hx1] | rw [maf_1 hM hx0 hx1] | rw [maf_2 hC2 hR2 hx0 hx1] | rw [maf_3 hM hx0 hx1]); first | (rw [if_neg (by omega)]; done) | (rw [if_pos (by omega)]; try omega))
  · skip
    refine lv_iload_n hx hb dX3_after_13 rfl (lv_at hl 1 rfl) ?_
    refine zv_bipush hx hb dX3_after_14 (by decide) ?_
    refine zv_irem hx hb dX3_after_16 (by omega) (by omega) (by omega) (by omega) ?_
    refine lv_iload_n hx hb dX3_after_17 rfl (lv_at hl 4 rfl) ?_
    refine zv_iconst hx hb dX3_after_18 ?_
    refine zv_icmp_ne hx hb dX3_after_19 (tgt := 26) (by decide) ⟨by omega, by omega⟩ ⟨by omega, by omega⟩ (fun c_26 => ?_) (fun c_26 => by exfalso; omega)
    refine lv_iload_n hx hb dX3_after_26 rfl (lv_at hl 4 rfl) ?_
    refine zv_iconst hx hb dX3_after_27 ?_
    refine zv_icmp_ne hx hb dX3_after_28 (tgt := 35) (by decide) ⟨by omega, by omega⟩ ⟨by omega, by omega⟩ (fun c_27 => ?_) (fun c_27 => by exfalso; omega)
    refine zv_iconst hx hb dX3_after_35 ?_
    refine zv_iadd hx hb dX3_after_36 ?_
    refine zv_top (y := x / 343 % 7) (by omega) ?_
    refine lv_istore (lv' := [(5, .int (iI (x / 343 % 7))), (4, .int (iI (x % 343))), (3, .int (iI (x / 343))), (0, .ref mm), (1, .int (iI x)), (2, .int (iI 2))]) hx hb dX3_after_37 hl (by decide) rfl (fun ls hl => ?_)
    refine lv_iload_n hx hb dX3_after_39 rfl (lv_at hl 2 rfl) ?_
    refine zv_bipush hx hb dX3_after_40 (by decide) ?_
    refine zv_idiv hx hb dX3_after_42 (by omega) (by omega) (by omega) (by omega) ?_
    refine lv_iload_n hx hb dX3_after_43 rfl (lv_at hl 5 rfl) ?_
    refine zv_iconst hx hb dX3_after_44 ?_
    refine zv_icmp_ne hx hb dX3_after_45 (tgt := 52) (by decide) ⟨by omega, by omega⟩ ⟨by omega, by omega⟩ (fun c_28 => by exfalso; omega) (fun c_28 => ?_)
    refine zv_iconst hx hb dX3_after_48 ?_
    refine lv_goto (tgt := 61) hx hb dX3_after_49 (by decide) ?_
    refine zv_iadd hx hb dX3_after_61 ?_
    refine zv_top (y := x / 343 / 7 + 1) (by omega) ?_
    refine lv_istore (lv' := [(6, .int (iI (x / 343 / 7 + 1))), (5, .int (iI (x / 343 % 7))), (4, .int (iI (x % 343))), (3, .int (iI (x / 343))), (0, .ref mm), (1, .int (iI x)), (2, .int (iI 2))]) hx hb dX3_after_62 hl (by decide) rfl (fun ls hl => ?_)
    refine lv_aload_n hx hb dX3_after_64 rfl (lv_at hl 4 rfl) ?_
    refine lv_iload hx hb dX3_after_65 (lv_at hl 1 rfl) ?_
    refine lv_iload hx hb dX3_after_67 (lv_at hl 0 rfl) ?_
    refine zc_V (As := [.int (iI (x / 343 % 7)), .int (iI (x / 343 / 7 + 1))]) (rest := []) (ws := [(mm, .inr (3, [.int (iI th), .int (iI C), .int (iI R), .int (iI lim), .int (iI np), .ref ac, .ref ar, .int (iI qb), .int (iI qs), .int (iI wd), .int (iI sm), .ref al, .ref aq, .ref ab])), (ac, .inl (cI, 3, .inl (aI gc))), (ar, .inl (cI, 3, .inl (aI gr)))]) (n := 2) hx hb (hml.trans hl.1.symm) hts hown hK hP (c_X3_isSquare l D cI cJ mm ac ar al aq ab th C R lim np qb qs wd sm gc gr N (x / 343 % 7) (x / 343 / 7 + 1) hM (by omega) (by omega) (by omega) (by omega)) (gd_V q_493 q_495 q_1016 q_6 q_496) (by decide +kernel) rfl ⟨Nat.le_of_ble_eq_true rfl, Nat.le_of_ble_eq_true rfl⟩ ⟨Nat.zero_le _, Nat.zero_le _⟩ [0, 1, 2] rfl 0 (ci := 3) rfl rfl rfl rfl (Nat.le_of_ble_eq_true rfl) dX3_after_69 (fun r_29 hr_29 => ?_)
    refine zv_if_eq hx hb dX3_after_72 (tgt := 89) (by decide) ⟨by omega, by omega⟩ (fun c_30 => ?_) (fun c_30 => ?_)
    · refine zv_iconst hx hb dX3_after_89 ?_
      exact PM_iret hx hb hr hlk dX3_after_90 (by (first | rw [maf_0 hC2 hR2 hx0 hx1] | rw [maf_1 hM hx0 hx1] | rw [maf_2 hC2 hR2 hx0 hx1] | rw [maf_3 hM hx0 hx1]); first | (rw [if_neg (by omega)]; done) | (rw [if_pos (by omega)]; try omega))
    · refine lv_aload_n hx hb dX3_after_75 rfl (lv_at hl 4 rfl) ?_
      refine lv_iload hx hb dX3_after_76 (lv_at hl 1 rfl) ?_
      refine lv_iload hx hb dX3_after_78 (lv_at hl 0 rfl) ?_
      refine zc_S (As := [.int (iI (x / 343 % 7)), .int (iI (x / 343 / 7 + 1))]) (rest := [.ref mm]) (ws := [(mm, .inr (3, [.int (iI th), .int (iI C), .int (iI R), .int (iI lim), .int (iI np), .ref ac, .ref ar, .int (iI qb), .int (iI qs), .int (iI wd), .int (iI sm), .ref al, .ref aq, .ref ab])), (ac, .inl (cI, 3, .inl (aI gc))), (ar, .inl (cI, 3, .inl (aI gr)))]) (n := 2) hx hb (hml.trans hl.1.symm) hts hown hK hP (c_X3_squareOf l D cI cJ (x / 343 % 7) (x / 343 / 7 + 1)) (gd_S q_500 q_501 q_6 q_502) (by decide +kernel) rfl ⟨Nat.le_of_ble_eq_true rfl, Nat.le_of_ble_eq_true rfl⟩ ⟨Nat.zero_le _, Nat.zero_le _⟩ [] rfl rfl (Nat.le_of_ble_eq_true rfl) dX3_after_80 (fun r_31 hr_31 => ?_)
      subst hr_31
      refine zc_V (As := [.int (iI (7 * (x / 343 / 7 + 1) + (x / 343 % 7)))]) (rest := []) (ws := [(mm, .inr (3, [.int (iI th), .int (iI C), .int (iI R), .int (iI lim), .int (iI np), .ref ac, .ref ar, .int (iI qb), .int (iI qs), .int (iI wd), .int (iI sm), .ref al, .ref aq, .ref ab])), (ac, .inl (cI, 3, .inl (aI gc))), (ar, .inl (cI, 3, .inl (aI gr)))]) (n := 1) hx hb (hml.trans hl.1.symm) hts hown hK hP (c_X3_isPillar l D cI cJ mm ac ar al aq ab th C R lim np qb qs wd sm gc gr N (7 * (x / 343 / 7 + 1) + (x / 343 % 7)) hM (by omega) (by omega)) (gd_V q_503 q_505 q_1017 q_6 q_506) (by decide +kernel) rfl ⟨Nat.le_of_ble_eq_true rfl, Nat.le_of_ble_eq_true rfl⟩ ⟨Nat.zero_le _, Nat.zero_le _⟩ [0, 1, 2] rfl 0 (ci := 3) rfl rfl rfl rfl (Nat.le_of_ble_eq_true rfl) dX3_after_83 (fun r_32 hr_32 => ?_)
      have hpq := hr_32.2 (x / 343 % 7) (x / 343 / 7 + 1) (by omega) (by omega) (by omega) (by omega) (by omega)
      refine zv_if_eq hx hb dX3_after_86 (tgt := 91) (by decide) ⟨by omega, by omega⟩ (fun c_33 => ?_) (fun c_33 => ?_)
      · refine lv_iload_n hx hb dX3_after_91 rfl (lv_at hl 6 rfl) ?_
        refine zv_iconst hx hb dX3_after_92 ?_
        refine zv_icmp_ne hx hb dX3_after_93 (tgt := 111) (by decide) ⟨by omega, by omega⟩ ⟨by omega, by omega⟩ (fun c_34 => ?_) (fun c_34 => by exfalso; omega)
        refine lv_iload_n hx hb dX3_after_111 rfl (lv_at hl 6 rfl) ?_
        refine zv_iconst hx hb dX3_after_112 ?_
        refine zv_icmp_ne hx hb dX3_after_113 (tgt := 129) (by decide) ⟨by omega, by omega⟩ ⟨by omega, by omega⟩ (fun c_35 => ?_) (fun c_35 => by exfalso; omega)
        refine lv_iload hx hb dX3_after_129 (lv_at hl 2 rfl) ?_
        refine lv_istore (lv' := [(7, .int (iI (x % 343))), (6, .int (iI (x / 343 / 7 + 1))), (5, .int (iI (x / 343 % 7))), (4, .int (iI (x % 343))), (3, .int (iI (x / 343))), (0, .ref mm), (1, .int (iI x)), (2, .int (iI 2))]) hx hb dX3_after_131 hl (by decide) rfl (fun ls hl => ?_)
        refine lv_iload hx hb dX3_after_133 (lv_at hl 0 rfl) ?_
        refine zv_sipush hx hb dX3_after_135 (by decide) ?_
        refine zv_icmp_ge hx hb dX3_after_138 (tgt := 158) (by decide) ⟨by omega, by omega⟩ ⟨by omega, by omega⟩ (fun c_36 => ?_) (fun c_36 => ?_)
        · refine zv_iconst hx hb dX3_after_158 ?_
          exact PM_iret hx hb hr hlk dX3_after_159 (by (first | rw [maf_0 hC2 hR2 hx0 hx1] | rw [maf_1 hM hx0 hx1] | rw [maf_2 hC2 hR2 hx0 hx1] | rw [maf_3 hM hx0 hx1]); first | (rw [if_neg (by omega)]; done) | (rw [if_pos (by omega)]; try omega))
        · refine zv_sipush hx hb dX3_after_141 (by decide) ?_
          refine lv_iload hx hb dX3_after_144 (lv_at hl 2 rfl) ?_
          refine lv_iload hx hb dX3_after_146 (lv_at hl 1 rfl) ?_
          refine zc_S (As := [.int (iI (x / 343 % 7)), .int (iI (x / 343 / 7 + 1))]) (rest := [.int (iI 343)]) (ws := [(mm, .inr (3, [.int (iI th), .int (iI C), .int (iI R), .int (iI lim), .int (iI np), .ref ac, .ref ar, .int (iI qb), .int (iI qs), .int (iI wd), .int (iI sm), .ref al, .ref aq, .ref ab])), (ac, .inl (cI, 3, .inl (aI gc))), (ar, .inl (cI, 3, .inl (aI gr)))]) (n := 2) hx hb (hml.trans hl.1.symm) hts hown hK hP (c_X3_squareOf l D cI cJ (x / 343 % 7) (x / 343 / 7 + 1)) (gd_S q_500 q_501 q_6 q_502) (by decide +kernel) rfl ⟨Nat.le_of_ble_eq_true rfl, Nat.le_of_ble_eq_true rfl⟩ ⟨Nat.zero_le _, Nat.zero_le _⟩ [] rfl rfl (Nat.le_of_ble_eq_true rfl) dX3_after_148 (fun r_37 hr_37 => ?_)
          subst hr_37
          refine zv_imul hx hb dX3_after_151 ?_
          refine lv_iload hx hb dX3_after_152 (lv_at hl 0 rfl) ?_
          refine zv_iadd hx hb dX3_after_154 ?_
          refine lv_goto (tgt := 159) hx hb dX3_after_155 (by decide) ?_
          exact PM_iret hx hb hr hlk dX3_after_159 (by (first | rw [maf_0 hC2 hR2 hx0 hx1] | rw [maf_1 hM hx0 hx1] | rw [maf_2 hC2 hR2 hx0 hx1] | rw [maf_3 hM hx0 hx1]); first | (rw [if_neg (by omega)]; done) | (rw [if_pos (by omega)]; try omega))
      · refine zv_iconst hx hb dX3_after_89 ?_
        exact PM_iret hx hb hr hlk dX3_after_90 (by (first | rw [maf_0 hC2 hR2 hx0 hx1] | rw [maf_1 hM hx0 hx1] | rw [maf_2 hC2 hR2 hx0 hx1] | rw [maf_3 hM hx0 hx1]); first | (rw [if_neg (by omega)]; done) | (rw [if_pos (by omega)]; try omega))
  · skip
    refine lv_iload_n hx hb dX3_after_13 rfl (lv_at hl 1 rfl) ?_
    refine zv_bipush hx hb dX3_after_14 (by decide) ?_
    refine zv_irem hx hb dX3_after_16 (by omega) (by omega) (by omega) (by omega) ?_
    refine lv_iload_n hx hb dX3_after_17 rfl (lv_at hl 4 rfl) ?_
    refine zv_iconst hx hb dX3_after_18 ?_
    refine zv_icmp_ne hx hb dX3_after_19 (tgt := 26) (by decide) ⟨by omega, by omega⟩ ⟨by omega, by omega⟩ (fun c_38 => ?_) (fun c_38 => by exfalso; omega)
    refine lv_iload_n hx hb dX3_after_26 rfl (lv_at hl 4 rfl) ?_
    refine zv_iconst hx hb dX3_after_27 ?_
    refine zv_icmp_ne hx hb dX3_after_28 (tgt := 35) (by decide) ⟨by omega, by omega⟩ ⟨by omega, by omega⟩ (fun c_39 => by exfalso; omega) (fun c_39 => ?_)
    refine zv_iconst hx hb dX3_after_31 ?_
    refine lv_goto (tgt := 36) hx hb dX3_after_32 (by decide) ?_
    refine zv_iadd hx hb dX3_after_36 ?_
    refine zv_top (y := x / 343 % 7 - 1) (by omega) ?_
    refine lv_istore (lv' := [(5, .int (iI (x / 343 % 7 - 1))), (4, .int (iI (x % 343))), (3, .int (iI (x / 343))), (0, .ref mm), (1, .int (iI x)), (2, .int (iI 3))]) hx hb dX3_after_37 hl (by decide) rfl (fun ls hl => ?_)
    refine lv_iload_n hx hb dX3_after_39 rfl (lv_at hl 2 rfl) ?_
    refine zv_bipush hx hb dX3_after_40 (by decide) ?_
    refine zv_idiv hx hb dX3_after_42 (by omega) (by omega) (by omega) (by omega) ?_
    refine lv_iload_n hx hb dX3_after_43 rfl (lv_at hl 5 rfl) ?_
    refine zv_iconst hx hb dX3_after_44 ?_
    refine zv_icmp_ne hx hb dX3_after_45 (tgt := 52) (by decide) ⟨by omega, by omega⟩ ⟨by omega, by omega⟩ (fun c_40 => ?_) (fun c_40 => by exfalso; omega)
    refine lv_iload_n hx hb dX3_after_52 rfl (lv_at hl 5 rfl) ?_
    refine zv_if_ne hx hb dX3_after_53 (tgt := 60) (by decide) ⟨by omega, by omega⟩ (fun c_41 => ?_) (fun c_41 => by exfalso; omega)
    refine zv_iconst hx hb dX3_after_60 ?_
    refine zv_iadd hx hb dX3_after_61 ?_
    refine zv_top (y := x / 343 / 7) (by omega) ?_
    refine lv_istore (lv' := [(6, .int (iI (x / 343 / 7))), (5, .int (iI (x / 343 % 7 - 1))), (4, .int (iI (x % 343))), (3, .int (iI (x / 343))), (0, .ref mm), (1, .int (iI x)), (2, .int (iI 3))]) hx hb dX3_after_62 hl (by decide) rfl (fun ls hl => ?_)
    refine lv_aload_n hx hb dX3_after_64 rfl (lv_at hl 4 rfl) ?_
    refine lv_iload hx hb dX3_after_65 (lv_at hl 1 rfl) ?_
    refine lv_iload hx hb dX3_after_67 (lv_at hl 0 rfl) ?_
    refine zc_V (As := [.int (iI (x / 343 % 7 - 1)), .int (iI (x / 343 / 7))]) (rest := []) (ws := [(mm, .inr (3, [.int (iI th), .int (iI C), .int (iI R), .int (iI lim), .int (iI np), .ref ac, .ref ar, .int (iI qb), .int (iI qs), .int (iI wd), .int (iI sm), .ref al, .ref aq, .ref ab])), (ac, .inl (cI, 3, .inl (aI gc))), (ar, .inl (cI, 3, .inl (aI gr)))]) (n := 2) hx hb (hml.trans hl.1.symm) hts hown hK hP (c_X3_isSquare l D cI cJ mm ac ar al aq ab th C R lim np qb qs wd sm gc gr N (x / 343 % 7 - 1) (x / 343 / 7) hM (by omega) (by omega) (by omega) (by omega)) (gd_V q_493 q_495 q_1016 q_6 q_496) (by decide +kernel) rfl ⟨Nat.le_of_ble_eq_true rfl, Nat.le_of_ble_eq_true rfl⟩ ⟨Nat.zero_le _, Nat.zero_le _⟩ [0, 1, 2] rfl 0 (ci := 3) rfl rfl rfl rfl (Nat.le_of_ble_eq_true rfl) dX3_after_69 (fun r_42 hr_42 => ?_)
    refine zv_if_eq hx hb dX3_after_72 (tgt := 89) (by decide) ⟨by omega, by omega⟩ (fun c_43 => ?_) (fun c_43 => ?_)
    · refine zv_iconst hx hb dX3_after_89 ?_
      exact PM_iret hx hb hr hlk dX3_after_90 (by (first | rw [maf_0 hC2 hR2 hx0 hx1] | rw [maf_1 hM hx0 hx1] | rw [maf_2 hC2 hR2 hx0 hx1] | rw [maf_3 hM hx0 hx1]); first | (rw [if_neg (by omega)]; done) | (rw [if_pos (by omega)]; try omega))
    · refine lv_aload_n hx hb dX3_after_75 rfl (lv_at hl 4 rfl) ?_
      refine lv_iload hx hb dX3_after_76 (lv_at hl 1 rfl) ?_
      refine lv_iload hx hb dX3_after_78 (lv_at hl 0 rfl) ?_
      refine zc_S (As := [.int (iI (x / 343 % 7 - 1)), .int (iI (x / 343 / 7))]) (rest := [.ref mm]) (ws := [(mm, .inr (3, [.int (iI th), .int (iI C), .int (iI R), .int (iI lim), .int (iI np), .ref ac, .ref ar, .int (iI qb), .int (iI qs), .int (iI wd), .int (iI sm), .ref al, .ref aq, .ref ab])), (ac, .inl (cI, 3, .inl (aI gc))), (ar, .inl (cI, 3, .inl (aI gr)))]) (n := 2) hx hb (hml.trans hl.1.symm) hts hown hK hP (c_X3_squareOf l D cI cJ (x / 343 % 7 - 1) (x / 343 / 7)) (gd_S q_500 q_501 q_6 q_502) (by decide +kernel) rfl ⟨Nat.le_of_ble_eq_true rfl, Nat.le_of_ble_eq_true rfl⟩ ⟨Nat.zero_le _, Nat.zero_le _⟩ [] rfl rfl (Nat.le_of_ble_eq_true rfl) dX3_after_80 (fun r_44 hr_44 => ?_)
      subst hr_44
      refine zc_V (As := [.int (iI (7 * (x / 343 / 7) + (x / 343 % 7 - 1)))]) (rest := []) (ws := [(mm, .inr (3, [.int (iI th), .int (iI C), .int (iI R), .int (iI lim), .int (iI np), .ref ac, .ref ar, .int (iI qb), .int (iI qs), .int (iI wd), .int (iI sm), .ref al, .ref aq, .ref ab])), (ac, .inl (cI, 3, .inl (aI gc))), (ar, .inl (cI, 3, .inl (aI gr)))]) (n := 1) hx hb (hml.trans hl.1.symm) hts hown hK hP (c_X3_isPillar l D cI cJ mm ac ar al aq ab th C R lim np qb qs wd sm gc gr N (7 * (x / 343 / 7) + (x / 343 % 7 - 1)) hM (by omega) (by omega)) (gd_V q_503 q_505 q_1017 q_6 q_506) (by decide +kernel) rfl ⟨Nat.le_of_ble_eq_true rfl, Nat.le_of_ble_eq_true rfl⟩ ⟨Nat.zero_le _, Nat.zero_le _⟩ [0, 1, 2] rfl 0 (ci := 3) rfl rfl rfl rfl (Nat.le_of_ble_eq_true rfl) dX3_after_83 (fun r_45 hr_45 => ?_)
      have hpq := hr_45.2 (x / 343 % 7 - 1) (x / 343 / 7) (by omega) (by omega) (by omega) (by omega) (by omega)
      refine zv_if_eq hx hb dX3_after_86 (tgt := 91) (by decide) ⟨by omega, by omega⟩ (fun c_46 => ?_) (fun c_46 => ?_)
      · refine lv_iload_n hx hb dX3_after_91 rfl (lv_at hl 6 rfl) ?_
        refine zv_iconst hx hb dX3_after_92 ?_
        refine zv_icmp_ne hx hb dX3_after_93 (tgt := 111) (by decide) ⟨by omega, by omega⟩ ⟨by omega, by omega⟩ (fun c_47 => ?_) (fun c_47 => by exfalso; omega)
        refine lv_iload_n hx hb dX3_after_111 rfl (lv_at hl 6 rfl) ?_
        refine zv_iconst hx hb dX3_after_112 ?_
        refine zv_icmp_ne hx hb dX3_after_113 (tgt := 129) (by decide) ⟨by omega, by omega⟩ ⟨by omega, by omega⟩ (fun c_48 => by exfalso; omega) (fun c_48 => ?_)
        refine lv_aload_n hx hb dX3_after_116 rfl (lv_at hl 4 rfl) ?_
        refine lv_iload hx hb dX3_after_117 (lv_at hl 2 rfl) ?_
        refine lv_iload hx hb dX3_after_119 (lv_at hl 1 rfl) ?_
        refine lv_iload hx hb dX3_after_121 (lv_at hl 0 rfl) ?_
        refine zc_V (As := [.int (iI (x % 343)), .int (iI (x / 343 % 7 - 1)), .int (iI (x / 343 / 7))]) (rest := []) (ws := [(mm, .inr (3, [.int (iI th), .int (iI C), .int (iI R), .int (iI lim), .int (iI np), .ref ac, .ref ar, .int (iI qb), .int (iI qs), .int (iI wd), .int (iI sm), .ref al, .ref aq, .ref ab])), (ac, .inl (cI, 3, .inl (aI gc))), (ar, .inl (cI, 3, .inl (aI gr)))]) (n := 3) hx hb (hml.trans hl.1.symm) hts hown hK hP (c_X3_goesLeft l D cI cJ mm ac ar al aq ab th C R lim np qb qs wd sm gc gr N (x % 343) (x / 343 % 7 - 1) (x / 343 / 7) hM (by omega) (by omega) (by omega) (by omega) (by omega) (by omega)) (gd_V q_518 q_520 q_1020 q_6 q_521) (by decide +kernel) rfl ⟨Nat.le_of_ble_eq_true rfl, Nat.le_of_ble_eq_true rfl⟩ ⟨Nat.zero_le _, Nat.zero_le _⟩ [0, 1, 2] rfl 0 (ci := 3) rfl rfl rfl rfl (Nat.le_of_ble_eq_true rfl) dX3_after_123 (fun r_49 hr_49 => ?_)
        subst hr_49
        refine lv_goto (tgt := 131) hx hb dX3_after_126 (by decide) ?_
        refine lv_istore (lv' := [(7, .int (iI (wLZ N R (x / 343 % 7 - 1) (x / 343 / 7) (x % 343)))), (6, .int (iI (x / 343 / 7))), (5, .int (iI (x / 343 % 7 - 1))), (4, .int (iI (x % 343))), (3, .int (iI (x / 343))), (0, .ref mm), (1, .int (iI x)), (2, .int (iI 3))]) hx hb dX3_after_131 hl (by decide) rfl (fun ls hl => ?_)
        refine lv_iload hx hb dX3_after_133 (lv_at hl 0 rfl) ?_
        refine zv_sipush hx hb dX3_after_135 (by decide) ?_
        refine zv_icmp_ge hx hb dX3_after_138 (tgt := 158) (by decide) ⟨by omega, by omega⟩ ⟨by omega, by omega⟩ (fun c_50 => ?_) (fun c_50 => ?_)
        · refine zv_iconst hx hb dX3_after_158 ?_
          exact PM_iret hx hb hr hlk dX3_after_159 (by (first | rw [maf_0 hC2 hR2 hx0 hx1] | rw [maf_1 hM hx0 hx1] | rw [maf_2 hC2 hR2 hx0 hx1] | rw [maf_3 hM hx0 hx1]); first | (rw [if_neg (by omega)]; done) | (rw [if_pos (by omega)]; try omega))
        · refine zv_sipush hx hb dX3_after_141 (by decide) ?_
          refine lv_iload hx hb dX3_after_144 (lv_at hl 2 rfl) ?_
          refine lv_iload hx hb dX3_after_146 (lv_at hl 1 rfl) ?_
          refine zc_S (As := [.int (iI (x / 343 % 7 - 1)), .int (iI (x / 343 / 7))]) (rest := [.int (iI 343)]) (ws := [(mm, .inr (3, [.int (iI th), .int (iI C), .int (iI R), .int (iI lim), .int (iI np), .ref ac, .ref ar, .int (iI qb), .int (iI qs), .int (iI wd), .int (iI sm), .ref al, .ref aq, .ref ab])), (ac, .inl (cI, 3, .inl (aI gc))), (ar, .inl (cI, 3, .inl (aI gr)))]) (n := 2) hx hb (hml.trans hl.1.symm) hts hown hK hP (c_X3_squareOf l D cI cJ (x / 343 % 7 - 1) (x / 343 / 7)) (gd_S q_500 q_501 q_6 q_502) (by decide +kernel) rfl ⟨Nat.le_of_ble_eq_true rfl, Nat.le_of_ble_eq_true rfl⟩ ⟨Nat.zero_le _, Nat.zero_le _⟩ [] rfl rfl (Nat.le_of_ble_eq_true rfl) dX3_after_148 (fun r_51 hr_51 => ?_)
          subst hr_51
          refine zv_imul hx hb dX3_after_151 ?_
          refine lv_iload hx hb dX3_after_152 (lv_at hl 0 rfl) ?_
          refine zv_iadd hx hb dX3_after_154 ?_
          refine lv_goto (tgt := 159) hx hb dX3_after_155 (by decide) ?_
          exact PM_iret hx hb hr hlk dX3_after_159 (by (first | rw [maf_0 hC2 hR2 hx0 hx1] | rw [maf_1 hM hx0 hx1] | rw [maf_2 hC2 hR2 hx0 hx1] | rw [maf_3 hM hx0 hx1]); first | (rw [if_neg (by omega)]; done) | (rw [if_pos (by omega)]; try omega))
      · refine zv_iconst hx hb dX3_after_89 ?_
        exact PM_iret hx hb hr hlk dX3_after_90 (by (first | rw [maf_0 hC2 hR2 hx0 hx1] | rw [maf_1 hM hx0 hx1] | rw [maf_2 hC2 hR2 hx0 hx1] | rw [maf_3 hM hx0 hx1]); first | (rw [if_neg (by omega)]; done) | (rw [if_pos (by omega)]; try omega))
set_option maxRecDepth 100000 in
set_option maxHeartbeats 4000000 in
theorem c_X3_isAble (l : Launch) (D : va_G) (cI cJ : ClassId) (mm ac ar al aq ab : Nat) (th C R lim np qb qs wd sm : Int) (gc gr gl : Nat → Int) (N L : Int → Int) (x : Int) (hM : MdOK C R np N gc gr) (hL : MLen L gl) (hlm : 1 ≤ lim ∧ lim ≤ 60) (hx : -1 ≤ x) (hx1 : x < 16807) : PM l yX3_isAble (.code yX3_isAble cX3_isAble 2 (some .boolean)) 0 [.ref mm, .int (iI x)] D cI cJ [(mm, .inr (3, [.int (iI th), .int (iI C), .int (iI R), .int (iI lim), .int (iI np), .ref ac, .ref ar, .int (iI qb), .int (iI qs), .int (iI wd), .int (iI sm), .ref al, .ref aq, .ref ab])), (ac, .inl (cI, 3, .inl (aI gc))), (ar, .inl (cI, 3, .inl (aI gr))), (al, .inl (cI, 16807, .inl (aI gl)))] (fun r => (r = 1 ∧ (x ≠ -1 ∧ L (tauZ x) ≠ -1 ∧ L (tauZ x) ≤ lim)) ∨ (r = 0 ∧ ¬ (x ≠ -1 ∧ L (tauZ x) ≠ -1 ∧ L (tauZ x) ≤ lim))) := by
  obtain ⟨hC1, hC2, hR1, hR2, hp1, hp2, -, -⟩ := id hM
  have hLb := hL.b (tauZ x)
  refine PM_of (by decide) rfl (Nat.le_of_ble_eq_true rfl) (fun p e s m below meth c ls hx hb hr hts hown hlk hml hK hP hl => ?_)
  have hl : lv_has ls 2 [(0, .ref mm), (1, .int (iI x))] := hl
  refine lv_iload_n hx hb dX3_isAble_0 rfl (lv_at hl 1 rfl) ?_
  refine zv_iconst hx hb dX3_isAble_1 ?_
  refine zv_icmp_eq hx hb dX3_isAble_2 (tgt := 32) (by decide) ⟨by omega, by omega⟩ ⟨by omega, by omega⟩ (fun c_1 => ?_) (fun c_1 => ?_)
  · refine zv_iconst hx hb dX3_isAble_32 ?_
    exact PM_zret hx hb hr hlk dX3_isAble_33 (by first | rfl | decide) (by omega)
  · refine lv_aload_n hx hb dX3_isAble_5 rfl (lv_at hl 0 rfl) ?_
    refine va_get (D := D) (ci := 3) (v := .ref al) (C := RX3) (T := TX3) (N := 14) hx hb hts uX3 hown hK.1 hP 0 rfl rfl 11 (by decide) (hts _ q_537) (fun _ h9 => h9) rfl dX3_isAble_6 ?_
    refine lv_iload_n hx hb dX3_isAble_9 rfl (lv_at hl 1 rfl) ?_
    refine zv_iald hx hb hK.1 hP 3 0 rfl rfl (by omega) (by omega) (by omega) dX3_isAble_10 ?_
    refine zv_top (y := L (tauZ x)) (hL.at (by omega) (by omega)) ?_
    refine zv_iconst hx hb dX3_isAble_11 ?_
    refine zv_icmp_eq hx hb dX3_isAble_12 (tgt := 32) (by decide) ⟨by omega, by omega⟩ ⟨by omega, by omega⟩ (fun c_2 => ?_) (fun c_2 => ?_)
    · refine zv_iconst hx hb dX3_isAble_32 ?_
      exact PM_zret hx hb hr hlk dX3_isAble_33 (by first | rfl | decide) (by omega)
    · refine lv_aload_n hx hb dX3_isAble_15 rfl (lv_at hl 0 rfl) ?_
      refine va_get (D := D) (ci := 3) (v := .ref al) (C := RX3) (T := TX3) (N := 14) hx hb hts uX3 hown hK.1 hP 0 rfl rfl 11 (by decide) (hts _ q_537) (fun _ h9 => h9) rfl dX3_isAble_16 ?_
      refine lv_iload_n hx hb dX3_isAble_19 rfl (lv_at hl 1 rfl) ?_
      refine zv_iald hx hb hK.1 hP 3 0 rfl rfl (by omega) (by omega) (by omega) dX3_isAble_20 ?_
      refine zv_top (y := L (tauZ x)) (hL.at (by omega) (by omega)) ?_
      refine lv_aload_n hx hb dX3_isAble_21 rfl (lv_at hl 0 rfl) ?_
      refine va_get (D := D) (ci := 3) (v := .int (iI lim)) (C := RX3) (T := TX3) (N := 14) hx hb hts uX3 hown hK.1 hP 0 rfl rfl 3 (by decide) (hts _ q_529) (fun _ h9 => h9) rfl dX3_isAble_22 ?_
      refine zv_icmp_gt hx hb dX3_isAble_25 (tgt := 32) (by decide) ⟨by omega, by omega⟩ ⟨by omega, by omega⟩ (fun c_3 => ?_) (fun c_3 => ?_)
      · refine zv_iconst hx hb dX3_isAble_32 ?_
        exact PM_zret hx hb hr hlk dX3_isAble_33 (by first | rfl | decide) (by omega)
      · refine zv_iconst hx hb dX3_isAble_28 ?_
        refine lv_goto (tgt := 33) hx hb dX3_isAble_29 (by decide) ?_
        exact PM_zret hx hb hr hlk dX3_isAble_33 (by first | rfl | decide) (by omega)
set_option maxRecDepth 100000 in
set_option maxHeartbeats 4000000 in
theorem c_X3_along (l : Launch) (D : va_G) (cI cJ : ClassId) (mm ac ar al aq ab : Nat) (th C R lim np qb qs wd sm : Int) (gc gr gl : Nat → Int) (N L : Int → Int) (x : Int) (hM : MdOK C R np N gc gr) (hL : MLen L gl) (hlm : 1 ≤ lim ∧ lim ≤ 60) (hx0 : 0 ≤ x) (hx1 : x < 16807) (hxr : x / 343 / 7 < R) : PM l yX3_along (.code yX3_along cX3_along 4 (some .int)) 4 [.ref mm, .int (iI x)] D cI cJ [(mm, .inr (3, [.int (iI th), .int (iI C), .int (iI R), .int (iI lim), .int (iI np), .ref ac, .ref ar, .int (iI qb), .int (iI qs), .int (iI wd), .int (iI sm), .ref al, .ref aq, .ref ab])), (ac, .inl (cI, 3, .inl (aI gc))), (ar, .inl (cI, 3, .inl (aI gr))), (al, .inl (cI, 16807, .inl (aI gl)))] (fun r => r = cdZ C R N L (tauZ x)) := by
  obtain ⟨hC1, hC2, hR1, hR2, hp1, hp2, -, -⟩ := id hM
  have hLx := hL.b (tauZ x)
  have hLm1 := hL.2.2 (-1) (by omega)
  refine PM_of (by decide) rfl (Nat.le_of_ble_eq_true rfl) (fun p e s m below meth c ls hx hb hr hts hown hlk hml hK hP hl => ?_)
  have hl : lv_has ls 4 [(0, .ref mm), (1, .int (iI x))] := hl
  refine zv_iconst hx hb dX3_along_0 ?_
  refine lv_istore_n (lv' := [(2, .int (iI 0)), (0, .ref mm), (1, .int (iI x))]) hx hb dX3_along_1 rfl hl (by decide) rfl (fun ls hl => ?_)
  have loop2 : ∀ (n : Nat) (d : Int), (0 ≤ d) → (d ≤ 4) → (d = 0 ∨ 1 ≤ L (tauZ x)) → (∀ i, 0 ≤ i → i < d → L (aftZ C R N (tauZ x) i) ≠ L (tauZ x) - 1) → (4 - d < (n : Int)) → ∀ ls : Array Slot, lv_has ls 4 [(0, .ref mm), (1, .int (iI x)), (2, .int (iI d))] → W p l e (lvl 4) s m [.ref mm, .int (iI x)].toArray below meth c s.heap [] 0 0 (MQ below (PQ (fun r => r = cdZ C R N L (tauZ x))) [.ref mm, .int (iI x)].toArray s 0 0 (fun _ => False)) (F0 m 2 ls []) := by
    intro n
    induction n with
    | zero => intro d hd0 hd4 hpo hno hms; exfalso; omega
    | succ n ih =>
      intro d hd0 hd4 hpo hno hms ls hl
      have hm := maf_b hM (x := x) (d := d) (by omega) (by omega) (by omega)
      have ht := tM_b hm
      have hLb := hL.b (aftZ C R N (tauZ x) d)
      have hLn : tM (aftZ C R N (tauZ x) d) = -1 → L (aftZ C R N (tauZ x) d) = -1 := fun h => by rw [show aftZ C R N (tauZ x) d = -1 by omega]; exact hLm1
      refine lv_iload_n hx hb dX3_along_2 rfl (lv_at hl 2 rfl) ?_
      refine zv_iconst hx hb dX3_along_3 ?_
      refine zv_icmp_ge hx hb dX3_along_4 (tgt := 53) (by decide) ⟨by omega, by omega⟩ ⟨by omega, by omega⟩ (fun c_1 => ?_) (fun c_1 => ?_)
      · refine zv_iconst hx hb dX3_along_53 ?_
        exact PM_iret hx hb hr hlk dX3_along_54 (by first | exact cdZ_lo (by omega) | exact cdZ_no (by omega) (fun i h0 h1 => hno i h0 (by omega)))
      · refine lv_aload_n hx hb dX3_along_7 rfl (lv_at hl 0 rfl) ?_
        refine va_get (D := D) (ci := 3) (v := .ref al) (C := RX3) (T := TX3) (N := 14) hx hb hts uX3 hown hK.1 hP 0 rfl rfl 11 (by decide) (hts _ q_537) (fun _ h9 => h9) rfl dX3_along_8 ?_
        refine lv_iload_n hx hb dX3_along_11 rfl (lv_at hl 1 rfl) ?_
        refine zv_iald hx hb hK.1 hP 3 0 rfl rfl (by omega) (by omega) (by omega) dX3_along_12 ?_
        refine zv_top (y := L (tauZ x)) (hL.at (by omega) (by omega)) ?_
        refine zv_if_le hx hb dX3_along_13 (tgt := 53) (by decide) ⟨by omega, by omega⟩ (fun c_2 => ?_) (fun c_2 => ?_)
        · refine zv_iconst hx hb dX3_along_53 ?_
          exact PM_iret hx hb hr hlk dX3_along_54 (by first | exact cdZ_lo (by omega) | exact cdZ_no (by omega) (fun i h0 h1 => hno i h0 (by omega)))
        · refine lv_aload_n hx hb dX3_along_16 rfl (lv_at hl 0 rfl) ?_
          refine lv_iload_n hx hb dX3_along_17 rfl (lv_at hl 1 rfl) ?_
          refine lv_iload_n hx hb dX3_along_18 rfl (lv_at hl 2 rfl) ?_
          refine zc_V (As := [.int (iI x), .int (iI d)]) (rest := []) (ws := [(mm, .inr (3, [.int (iI th), .int (iI C), .int (iI R), .int (iI lim), .int (iI np), .ref ac, .ref ar, .int (iI qb), .int (iI qs), .int (iI wd), .int (iI sm), .ref al, .ref aq, .ref ab])), (ac, .inl (cI, 3, .inl (aI gc))), (ar, .inl (cI, 3, .inl (aI gr))), (al, .inl (cI, 16807, .inl (aI gl)))]) (n := 2) hx hb (hml.trans hl.1.symm) hts hown hK hP (c_X3_after l D cI cJ mm ac ar al aq ab th C R lim np qb qs wd sm gc gr N x d hM (by omega) (by omega) (by omega) (by omega) (by omega)) (gd_V q_489 q_491 q_1015 q_6 q_492) (by decide +kernel) rfl ⟨Nat.le_of_ble_eq_true rfl, Nat.le_of_ble_eq_true rfl⟩ ⟨Nat.zero_le _, Nat.zero_le _⟩ [0, 1, 2] rfl 0 (ci := 3) rfl rfl rfl rfl (Nat.le_of_ble_eq_true rfl) dX3_along_19 (fun r_3 hr_3 => ?_)
          subst hr_3
          refine lv_istore_n (lv' := [(3, .int (iI (tM (aftZ C R N (tauZ x) d)))), (0, .ref mm), (1, .int (iI x)), (2, .int (iI d))]) hx hb dX3_along_22 rfl hl (by decide) rfl (fun ls hl => ?_)
          refine lv_iload_n hx hb dX3_along_23 rfl (lv_at hl 0 rfl) ?_
          refine zv_iconst hx hb dX3_along_24 ?_
          refine zv_icmp_eq hx hb dX3_along_25 (tgt := 47) (by decide) ⟨by omega, by omega⟩ ⟨by omega, by omega⟩ (fun c_4 => ?_) (fun c_4 => ?_)
          · refine zv_iinc (k := 3) (lv' := [(2, .int (iI (d + 1))), (3, .int (iI (tM (aftZ C R N (tauZ x) d)))), (0, .ref mm), (1, .int (iI x))]) hx hb dX3_along_47 hl rfl (by decide) rfl (fun ls hl => ?_)
            refine lv_goto (tgt := 2) hx hb dX3_along_50 (by decide) ?_
            exact ih (d + 1) (by omega) (by omega) (by omega) (fun i h0 h1 => (ilt h1).elim (hno i h0) (fun e => by rw [e]; first | assumption | (have h9 := hLn (by assumption); omega))) (by omega) ls (lv_sub hl [2, 3, 0] rfl)
          · refine lv_aload_n hx hb dX3_along_28 rfl (lv_at hl 1 rfl) ?_
            refine va_get (D := D) (ci := 3) (v := .ref al) (C := RX3) (T := TX3) (N := 14) hx hb hts uX3 hown hK.1 hP 0 rfl rfl 11 (by decide) (hts _ q_537) (fun _ h9 => h9) rfl dX3_along_29 ?_
            refine lv_iload_n hx hb dX3_along_32 rfl (lv_at hl 0 rfl) ?_
            refine zv_iald hx hb hK.1 hP 3 0 rfl rfl (by omega) (by omega) (by omega) dX3_along_33 ?_
            refine zv_top (y := L (aftZ C R N (tauZ x) d)) (hL.tm hm (by assumption)) ?_
            refine lv_aload_n hx hb dX3_along_34 rfl (lv_at hl 1 rfl) ?_
            refine va_get (D := D) (ci := 3) (v := .ref al) (C := RX3) (T := TX3) (N := 14) hx hb hts uX3 hown hK.1 hP 0 rfl rfl 11 (by decide) (hts _ q_537) (fun _ h9 => h9) rfl dX3_along_35 ?_
            refine lv_iload_n hx hb dX3_along_38 rfl (lv_at hl 2 rfl) ?_
            refine zv_iald hx hb hK.1 hP 3 0 rfl rfl (by omega) (by omega) (by omega) dX3_along_39 ?_
            refine zv_top (y := L (tauZ x)) (hL.at (by omega) (by omega)) ?_
            refine zv_iconst hx hb dX3_along_40 ?_
            refine zv_isub hx hb dX3_along_41 ?_
            refine zv_icmp_ne hx hb dX3_along_42 (tgt := 47) (by decide) ⟨by omega, by omega⟩ ⟨by omega, by omega⟩ (fun c_5 => ?_) (fun c_5 => ?_)
            · refine zv_iinc (k := 3) (lv' := [(2, .int (iI (d + 1))), (3, .int (iI (tM (aftZ C R N (tauZ x) d)))), (0, .ref mm), (1, .int (iI x))]) hx hb dX3_along_47 hl rfl (by decide) rfl (fun ls hl => ?_)
              refine lv_goto (tgt := 2) hx hb dX3_along_50 (by decide) ?_
              exact ih (d + 1) (by omega) (by omega) (by omega) (fun i h0 h1 => (ilt h1).elim (hno i h0) (fun e => by rw [e]; first | assumption | (have h9 := hLn (by assumption); omega))) (by omega) ls (lv_sub hl [2, 3, 0] rfl)
            · refine lv_iload_n hx hb dX3_along_45 rfl (lv_at hl 3 rfl) ?_
              exact PM_iret hx hb hr hlk dX3_along_46 (cdZ_at (by omega) (by omega) (by omega) hno (by assumption))
  exact loop2 5 0 (by omega) (by omega) (by omega) (fun i _ h => absurd h (by omega)) (by omega) ls (lv_sub hl [1, 2, 0] rfl)
set_option maxRecDepth 100000 in
set_option maxHeartbeats 4000000 in
theorem c_X3_leastOf (l : Launch) (D : va_G) (cI cJ : ClassId) (mm ac ar al aq ab : Nat) (th C R lim np qb qs wd sm : Int) (gc gr gl : Nat → Int) (N L : Int → Int) (q : Int) (hM : MdOK C R np N gc gr) (hL : MLen L gl) (hlm : 1 ≤ lim ∧ lim ≤ 60) (hq0 : 0 ≤ q) (hq1 : q < 49) : PM l yX3_leastOf (.code yX3_leastOf cX3_leastOf 4 (some .int)) 0 [.ref mm, .int (iI q)] D cI cJ [(mm, .inr (3, [.int (iI th), .int (iI C), .int (iI R), .int (iI lim), .int (iI np), .ref ac, .ref ar, .int (iI qb), .int (iI qs), .int (iI wd), .int (iI sm), .ref al, .ref aq, .ref ab])), (ac, .inl (cI, 3, .inl (aI gc))), (ar, .inl (cI, 3, .inl (aI gr))), (al, .inl (cI, 16807, .inl (aI gl)))] (fun r => r = lsZ L (q % 7 * 7 + q / 7)) := by
  obtain ⟨hC1, hC2, hR1, hR2, hp1, hp2, -, -⟩ := id hM
  refine PM_of (by decide) rfl (Nat.le_of_ble_eq_true rfl) (fun p e s m below meth c ls hx hb hr hts hown hlk hml hK hP hl => ?_)
  have hl : lv_has ls 4 [(0, .ref mm), (1, .int (iI q))] := hl
  refine zv_iconst hx hb dX3_leastOf_0 ?_
  refine lv_istore_n (lv' := [(2, .int (iI (-1))), (0, .ref mm), (1, .int (iI q))]) hx hb dX3_leastOf_1 rfl hl (by decide) rfl (fun ls hl => ?_)
  refine zv_sipush hx hb dX3_leastOf_2 (by decide) ?_
  refine lv_iload_n hx hb dX3_leastOf_5 rfl (lv_at hl 2 rfl) ?_
  refine zv_imul hx hb dX3_leastOf_6 ?_
  refine lv_istore_n (lv' := [(3, .int (iI (343 * q))), (2, .int (iI (-1))), (0, .ref mm), (1, .int (iI q))]) hx hb dX3_leastOf_7 rfl hl (by decide) rfl (fun ls hl => ?_)
  have loop8 : ∀ (n : Nat) (y i : Int) (j : Nat), (i = 343 * q + (j : Int)) → ((j : Int) ≤ 343) → (y = lsN L (q % 7 * 7 + q / 7) j) → (343 * q + 343 - i < (n : Int)) → ∀ ls : Array Slot, lv_has ls 4 [(0, .ref mm), (1, .int (iI q)), (2, .int (iI y)), (3, .int (iI i))] → W p l e (lvl 0) s m [.ref mm, .int (iI q)].toArray below meth c s.heap [] 0 0 (MQ below (PQ (fun r => r = lsZ L (q % 7 * 7 + q / 7))) [.ref mm, .int (iI q)].toArray s 0 0 (fun _ => False)) (F0 m 8 ls []) := by
    intro n
    induction n with
    | zero => intro y i j hi hij hy hms; exfalso; omega
    | succ n ih =>
      intro y i j hi hij hy hms ls hl
      have hyb := lsN_b2 hL.2.1 (q % 7 * 7 + q / 7) j
      rw [← hy] at hyb
      have hLb := hL.b ((q % 7 * 7 + q / 7) * 343 + (j : Int))
      have hti : (j : Int) < 343 → tauZ i = (q % 7 * 7 + q / 7) * 343 + (j : Int) := fun h => by unfold tauZ; omega
      refine lv_iload_n hx hb dX3_leastOf_8 rfl (lv_at hl 3 rfl) ?_
      refine zv_sipush hx hb dX3_leastOf_9 (by decide) ?_
      refine lv_iload_n hx hb dX3_leastOf_12 rfl (lv_at hl 1 rfl) ?_
      refine zv_imul hx hb dX3_leastOf_13 ?_
      refine zv_sipush hx hb dX3_leastOf_14 (by decide) ?_
      refine zv_iadd hx hb dX3_leastOf_17 ?_
      refine zv_icmp_ge hx hb dX3_leastOf_18 (tgt := 63) (by decide) ⟨by omega, by omega⟩ ⟨by omega, by omega⟩ (fun c_1 => ?_) (fun c_1 => ?_)
      · refine lv_iload_n hx hb dX3_leastOf_63 rfl (lv_at hl 2 rfl) ?_
        exact PM_iret hx hb hr hlk dX3_leastOf_64 (by rw [hy, show j = 343 by omega]; rfl)
      · refine lv_aload_n hx hb dX3_leastOf_21 rfl (lv_at hl 0 rfl) ?_
        refine va_get (D := D) (ci := 3) (v := .ref al) (C := RX3) (T := TX3) (N := 14) hx hb hts uX3 hown hK.1 hP 0 rfl rfl 11 (by decide) (hts _ q_537) (fun _ h9 => h9) rfl dX3_leastOf_22 ?_
        refine lv_iload_n hx hb dX3_leastOf_25 rfl (lv_at hl 3 rfl) ?_
        refine zv_iald hx hb hK.1 hP 3 0 rfl rfl (by omega) (by omega) (by omega) dX3_leastOf_26 ?_
        refine zv_top (y := L ((q % 7 * 7 + q / 7) * 343 + (j : Int))) (by rw [hL.at (by omega) (by omega), hti (by omega)]) ?_
        refine zv_iconst hx hb dX3_leastOf_27 ?_
        refine zv_icmp_eq hx hb dX3_leastOf_28 (tgt := 55) (by decide) ⟨by omega, by omega⟩ ⟨by omega, by omega⟩ (fun c_2 => ?_) (fun c_2 => ?_)
        · refine lv_iload_n hx hb dX3_leastOf_55 rfl (lv_at hl 2 rfl) ?_
          refine lv_istore_n (lv' := [(2, .int (iI y)), (0, .ref mm), (1, .int (iI q)), (3, .int (iI i))]) hx hb dX3_leastOf_56 rfl hl (by decide) rfl (fun ls hl => ?_)
          refine zv_iinc (k := 3) (lv' := [(3, .int (iI (i + 1))), (2, .int (iI y)), (0, .ref mm), (1, .int (iI q))]) hx hb dX3_leastOf_57 hl rfl (by decide) rfl (fun ls hl => ?_)
          refine lv_goto (tgt := 8) hx hb dX3_leastOf_60 (by decide) ?_
          exact ih y (i + 1) (j + 1) (by omega) (by omega) (by unfold lsN; rw [← hy]; first | rw [if_pos (by omega)] | rw [if_neg (by omega)]) (by omega) ls (lv_sub hl [2, 3, 1, 0] rfl)
        · refine lv_iload_n hx hb dX3_leastOf_31 rfl (lv_at hl 2 rfl) ?_
          refine zv_iconst hx hb dX3_leastOf_32 ?_
          refine zv_icmp_eq hx hb dX3_leastOf_33 (tgt := 46) (by decide) ⟨by omega, by omega⟩ ⟨by omega, by omega⟩ (fun c_3 => ?_) (fun c_3 => ?_)
          · refine lv_aload_n hx hb dX3_leastOf_46 rfl (lv_at hl 0 rfl) ?_
            refine va_get (D := D) (ci := 3) (v := .ref al) (C := RX3) (T := TX3) (N := 14) hx hb hts uX3 hown hK.1 hP 0 rfl rfl 11 (by decide) (hts _ q_537) (fun _ h9 => h9) rfl dX3_leastOf_47 ?_
            refine lv_iload_n hx hb dX3_leastOf_50 rfl (lv_at hl 3 rfl) ?_
            refine zv_iald hx hb hK.1 hP 3 0 rfl rfl (by omega) (by omega) (by omega) dX3_leastOf_51 ?_
            refine zv_top (y := L ((q % 7 * 7 + q / 7) * 343 + (j : Int))) (by rw [hL.at (by omega) (by omega), hti (by omega)]) ?_
            refine lv_goto (tgt := 56) hx hb dX3_leastOf_52 (by decide) ?_
            refine lv_istore_n (lv' := [(2, .int (iI (L ((q % 7 * 7 + q / 7) * 343 + (j : Int))))), (0, .ref mm), (1, .int (iI q)), (3, .int (iI i))]) hx hb dX3_leastOf_56 rfl hl (by decide) rfl (fun ls hl => ?_)
            refine zv_iinc (k := 3) (lv' := [(3, .int (iI (i + 1))), (2, .int (iI (L ((q % 7 * 7 + q / 7) * 343 + (j : Int))))), (0, .ref mm), (1, .int (iI q))]) hx hb dX3_leastOf_57 hl rfl (by decide) rfl (fun ls hl => ?_)
            refine lv_goto (tgt := 8) hx hb dX3_leastOf_60 (by decide) ?_
            exact ih (L ((q % 7 * 7 + q / 7) * 343 + (j : Int))) (i + 1) (j + 1) (by omega) (by omega) (by unfold lsN; rw [← hy]; first | rw [if_pos (by omega)] | rw [if_neg (by omega)]) (by omega) ls (lv_sub hl [2, 3, 1, 0] rfl)
          · refine lv_aload_n hx hb dX3_leastOf_36 rfl (lv_at hl 0 rfl) ?_
            refine va_get (D := D) (ci := 3) (v := .ref al) (C := RX3) (T := TX3) (N := 14) hx hb hts uX3 hown hK.1 hP 0 rfl rfl 11 (by decide) (hts _ q_537) (fun _ h9 => h9) rfl dX3_leastOf_37 ?_
            refine lv_iload_n hx hb dX3_leastOf_40 rfl (lv_at hl 3 rfl) ?_
            refine zv_iald hx hb hK.1 hP 3 0 rfl rfl (by omega) (by omega) (by omega) dX3_leastOf_41 ?_
            refine zv_top (y := L ((q % 7 * 7 + q / 7) * 343 + (j : Int))) (by rw [hL.at (by omega) (by omega), hti (by omega)]) ?_
            refine lv_iload_n hx hb dX3_leastOf_42 rfl (lv_at hl 2 rfl) ?_
            refine zv_icmp_ge hx hb dX3_leastOf_43 (tgt := 55) (by decide) ⟨by omega, by omega⟩ ⟨by omega, by omega⟩ (fun c_4 => ?_) (fun c_4 => ?_)
            · refine lv_iload_n hx hb dX3_leastOf_55 rfl (lv_at hl 2 rfl) ?_
              refine lv_istore_n (lv' := [(2, .int (iI y)), (0, .ref mm), (1, .int (iI q)), (3, .int (iI i))]) hx hb dX3_leastOf_56 rfl hl (by decide) rfl (fun ls hl => ?_)
              refine zv_iinc (k := 3) (lv' := [(3, .int (iI (i + 1))), (2, .int (iI y)), (0, .ref mm), (1, .int (iI q))]) hx hb dX3_leastOf_57 hl rfl (by decide) rfl (fun ls hl => ?_)
              refine lv_goto (tgt := 8) hx hb dX3_leastOf_60 (by decide) ?_
              exact ih y (i + 1) (j + 1) (by omega) (by omega) (by unfold lsN; rw [← hy]; first | rw [if_pos (by omega)] | rw [if_neg (by omega)]) (by omega) ls (lv_sub hl [2, 3, 1, 0] rfl)
            · refine lv_aload_n hx hb dX3_leastOf_46 rfl (lv_at hl 0 rfl) ?_
              refine va_get (D := D) (ci := 3) (v := .ref al) (C := RX3) (T := TX3) (N := 14) hx hb hts uX3 hown hK.1 hP 0 rfl rfl 11 (by decide) (hts _ q_537) (fun _ h9 => h9) rfl dX3_leastOf_47 ?_
              refine lv_iload_n hx hb dX3_leastOf_50 rfl (lv_at hl 3 rfl) ?_
              refine zv_iald hx hb hK.1 hP 3 0 rfl rfl (by omega) (by omega) (by omega) dX3_leastOf_51 ?_
              refine zv_top (y := L ((q % 7 * 7 + q / 7) * 343 + (j : Int))) (by rw [hL.at (by omega) (by omega), hti (by omega)]) ?_
              refine lv_goto (tgt := 56) hx hb dX3_leastOf_52 (by decide) ?_
              refine lv_istore_n (lv' := [(2, .int (iI (L ((q % 7 * 7 + q / 7) * 343 + (j : Int))))), (0, .ref mm), (1, .int (iI q)), (3, .int (iI i))]) hx hb dX3_leastOf_56 rfl hl (by decide) rfl (fun ls hl => ?_)
              refine zv_iinc (k := 3) (lv' := [(3, .int (iI (i + 1))), (2, .int (iI (L ((q % 7 * 7 + q / 7) * 343 + (j : Int))))), (0, .ref mm), (1, .int (iI q))]) hx hb dX3_leastOf_57 hl rfl (by decide) rfl (fun ls hl => ?_)
              refine lv_goto (tgt := 8) hx hb dX3_leastOf_60 (by decide) ?_
              exact ih (L ((q % 7 * 7 + q / 7) * 343 + (j : Int))) (i + 1) (j + 1) (by omega) (by omega) (by unfold lsN; rw [← hy]; first | rw [if_pos (by omega)] | rw [if_neg (by omega)]) (by omega) ls (lv_sub hl [2, 3, 1, 0] rfl)
  exact loop8 344 (-1) (343 * q) 0 (by omega) (by omega) rfl (by omega) ls (lv_sub hl [2, 3, 1, 0] rfl)
set_option maxRecDepth 100000 in
set_option maxHeartbeats 4000000 in
theorem c_X3_place (l : Launch) (D : va_G) (cI cJ : ClassId) (mm ac ar al aq ab : Nat) (th C R lim np qb qs wd sm : Int) : PM l yX3_place (.code yX3_place cX3_place 1 (some .int)) 0 [.ref mm] D cI cJ [(mm, .inr (3, [.int (iI th), .int (iI C), .int (iI R), .int (iI lim), .int (iI np), .ref ac, .ref ar, .int (iI qb), .int (iI qs), .int (iI wd), .int (iI sm), .ref al, .ref aq, .ref ab]))] (fun r => r = 343 * qs + wd) := by
  refine PM_of (by decide) rfl (Nat.le_of_ble_eq_true rfl) (fun p e s m below meth c ls hx hb hr hts hown hlk hml hK hP hl => ?_)
  have hl : lv_has ls 1 [(0, .ref mm)] := hl
  refine zv_sipush hx hb dX3_place_0 (by decide) ?_
  refine lv_aload_n hx hb dX3_place_3 rfl (lv_at hl 0 rfl) ?_
  refine va_get (D := D) (ci := 3) (v := .int (iI qs)) (C := RX3) (T := TX3) (N := 14) hx hb hts uX3 hown hK.1 hP 0 rfl rfl 8 (by decide) (hts _ q_534) (fun _ h9 => h9) rfl dX3_place_4 ?_
  refine zv_imul hx hb dX3_place_7 ?_
  refine lv_aload_n hx hb dX3_place_8 rfl (lv_at hl 0 rfl) ?_
  refine va_get (D := D) (ci := 3) (v := .int (iI wd)) (C := RX3) (T := TX3) (N := 14) hx hb hts uX3 hown hK.1 hP 0 rfl rfl 9 (by decide) (hts _ q_535) (fun _ h9 => h9) rfl dX3_place_9 ?_
  refine zv_iadd hx hb dX3_place_12 ?_
  exact PM_iret hx hb hr hlk dX3_place_13 (by first | rfl | omega)
set_option maxRecDepth 100000 in
set_option maxHeartbeats 4000000 in
theorem c_X3_thrown (l : Launch) (D : va_G) (cI cJ : ClassId) (mm ac ar al aq ab : Nat) (th C R lim np qb qs wd sm : Int) : PM l yX3_thrown (.code yX3_thrown cX3_thrown 1 (some .int)) 0 [.ref mm] D cI cJ [(mm, .inr (3, [.int (iI th), .int (iI C), .int (iI R), .int (iI lim), .int (iI np), .ref ac, .ref ar, .int (iI qb), .int (iI qs), .int (iI wd), .int (iI sm), .ref al, .ref aq, .ref ab]))] (fun r => r = th) := by
  refine PM_of (by decide) rfl (Nat.le_of_ble_eq_true rfl) (fun p e s m below meth c ls hx hb hr hts hown hlk hml hK hP hl => ?_)
  have hl : lv_has ls 1 [(0, .ref mm)] := hl
  refine lv_aload_n hx hb dX3_thrown_0 rfl (lv_at hl 0 rfl) ?_
  refine va_get (D := D) (ci := 3) (v := .int (iI th)) (C := RX3) (T := TX3) (N := 14) hx hb hts uX3 hown hK.1 hP 0 rfl rfl 0 (by decide) (hts _ q_526) (fun _ h9 => h9) rfl dX3_thrown_1 ?_
  exact PM_iret hx hb hr hlk dX3_thrown_4 (by first | rfl | omega)
end
section
/-! reduced words: no letter behind its opposite; steps lead back -/
def rdZ : Nat → Int → Prop
  | 0, w => w = 0
  | n + 1, w => w = 0 ∨ (w % 7 ≠ 0 ∧ (w / 7 % 7 = 0 ∨ w / 7 % 7 - 1 ≠ oppZ (w % 7 - 1)) ∧ rdZ n (w / 7))
theorem rdZ_s : ∀ (n : Nat) (w : Int), rdZ n w → rdZ (n + 1) w := by
  intro n
  induction n with
  | zero => intro w h; exact Or.inl h
  | succ n ih =>
    intro w h
    rcases h with h | ⟨h1, h2, h3⟩
    · exact Or.inl h
    · exact Or.inr ⟨h1, h2, ih _ h3⟩
theorem rdZ_add (n k : Nat) (w : Int) (h : rdZ n w) : rdZ (n + k) w := by
  induction k with
  | zero => exact h
  | succ k ih => exact rdZ_s _ _ ih
theorem rdZ_lt : ∀ (k n : Nat) (w : Int), 0 ≤ w → w < 7 ^ k → rdZ n w → rdZ k w := by
  intro k
  induction k with
  | zero => intro n w h0 h1 _; show w = 0; simp at h1; omega
  | succ k ih =>
    intro n w h0 h1 h
    cases n with
    | zero => exact Or.inl h
    | succ n =>
      rcases h with h | ⟨h2, h3, h4⟩
      · exact Or.inl h
      · refine Or.inr ⟨h2, h3, ih n (w / 7) (by omega) ?_ h4⟩
        have : (7 : Int) ^ (k + 1) = 7 ^ k * 7 := Int.pow_succ 7 k
        omega
theorem wjZ_rd {n : Nat} {w k : Int} (h0 : 0 ≤ w) (hk : 0 ≤ k) (hk5 : k ≤ 5) (h : rdZ n w) : rdZ (n + 1) (wjZ w k) := by
  unfold wjZ
  split
  · rename_i hc
    cases n with
    | zero => have h : w = 0 := h; subst h; exact Or.inl (by decide)
    | succ n =>
      rcases h with h | ⟨h1, h2, h3⟩
      · subst h; exact Or.inl (by decide)
      · exact rdZ_s _ _ (rdZ_s _ _ h3)
  · rename_i hc
    refine Or.inr ⟨by omega, ?_, ?_⟩
    · rw [show (w * 7 + k + 1) / 7 = w by omega, show (w * 7 + k + 1) % 7 - 1 = k by omega]
      exact Or.inr hc
    · rw [show (w * 7 + k + 1) / 7 = w by omega]
      exact h
theorem wjZ_back {n : Nat} {w k : Int} (h0 : 0 ≤ w) (hk : 0 ≤ k) (hk5 : k ≤ 5) (h : rdZ n w) : wjZ (wjZ w k) (oppZ k) = w := by
  have ho := oppZ_b hk hk5
  have hoo := oppZ_opp hk hk5
  by_cases hc : w % 7 - 1 = oppZ k
  · have e : wjZ w k = w / 7 := if_pos hc
    rw [e]
    unfold wjZ
    rw [if_neg]
    · omega
    · rw [hoo]
      cases n with
      | zero => have h : w = 0 := h; subst h; omega
      | succ n =>
        rcases h with h | ⟨h1, h2, h3⟩
        · subst h; omega
        · rw [hc, hoo] at h2
          rcases h2 with h2 | h2
          · omega
          · exact h2
  · have e : wjZ w k = w * 7 + k + 1 := if_neg hc
    rw [e]
    unfold wjZ
    rw [if_pos (by rw [hoo]; omega)]
    omega
theorem stR_nn {C R np : Int} {N : Int → Int} {gn : Nat → Int} (hF : FlOK C R np N gn) {c r w : Int} (h0 : 0 ≤ w) : 0 ≤ stR N c r w := (stR_b hF (B := w + 1) h0 (by omega)).1
theorem stL_nn {C R np : Int} {N : Int → Int} {gn : Nat → Int} (hF : FlOK C R np N gn) {c r w : Int} (h0 : 0 ≤ w) : 0 ≤ stL N c r w := (stL_b hF (B := w + 1) h0 (by omega)).1
theorem stR_rd {C R np : Int} {N : Int → Int} {gn : Nat → Int} (hF : FlOK C R np N gn) {n : Nat} {c r w : Int} (h0 : 0 ≤ w) (h : rdZ n w) : rdZ (n + 1) (stR N c r w) := by
  have h2 := hF.N2 (c * 7 + r)
  unfold stR
  split
  · exact rdZ_s _ _ h
  · exact wjZ_rd h0 (by omega) (by omega) h
theorem stL_rd {C R np : Int} {N : Int → Int} {gn : Nat → Int} (hF : FlOK C R np N gn) {n : Nat} {c r w : Int} (h0 : 0 ≤ w) (h : rdZ n w) : rdZ (n + 1) (stL N c r w) := by
  have h2 := hF.N2 (c * 7 + r)
  unfold stL
  split
  · exact rdZ_s _ _ h
  · have := oppZ_b (k := 2 * N (c * 7 + r)) (by omega) (by omega)
    exact wjZ_rd h0 this.1 this.2 h
theorem stL_stR {C R np : Int} {N : Int → Int} {gn : Nat → Int} (hF : FlOK C R np N gn) {n : Nat} {c r w : Int} (h0 : 0 ≤ w) (h : rdZ n w) : stL N c r (stR N c r w) = w := by
  have h2 := hF.N2 (c * 7 + r)
  by_cases hc : N (c * 7 + r) = -1
  · unfold stL stR; rw [if_pos hc, if_pos hc]
  · unfold stL stR; rw [if_neg hc, if_neg hc]
    exact wjZ_back h0 (by omega) (by omega) h
theorem stR_stL {C R np : Int} {N : Int → Int} {gn : Nat → Int} (hF : FlOK C R np N gn) {n : Nat} {c r w : Int} (h0 : 0 ≤ w) (h : rdZ n w) : stR N c r (stL N c r w) = w := by
  have h2 := hF.N2 (c * 7 + r)
  by_cases hc : N (c * 7 + r) = -1
  · unfold stL stR; rw [if_pos hc, if_pos hc]
  · have h3 := oppZ_b (k := 2 * N (c * 7 + r)) (by omega) (by omega)
    have h4 := oppZ_opp (k := 2 * N (c * 7 + r)) (by omega) (by omega)
    have h5 := wjZ_back h0 h3.1 h3.2 h
    rw [h4] at h5
    unfold stL stR; rw [if_neg hc, if_neg hc]
    exact h5
theorem wRn_rd {C R np : Int} {N : Int → Int} {gn : Nat → Int} (hF : FlOK C R np N gn) {k : Nat} {c b w : Int} (h0 : 0 ≤ w) (h : rdZ k w) : ∀ n : Nat, 0 ≤ wRn N c n b w ∧ rdZ (k + n) (wRn N c n b w) := by
  intro n
  induction n with
  | zero => exact ⟨h0, h⟩
  | succ n ih => exact ⟨stR_nn hF ih.1, stR_rd hF ih.1 ih.2⟩
theorem wLn_rd {C R np : Int} {N : Int → Int} {gn : Nat → Int} (hF : FlOK C R np N gn) {c b : Int} : ∀ (n k : Nat) (w : Int), 0 ≤ w → rdZ k w → 0 ≤ wLn N c n b w ∧ rdZ (k + n) (wLn N c n b w) := by
  intro n
  induction n with
  | zero => intro k w h0 h; exact ⟨h0, h⟩
  | succ n ih =>
    intro k w h0 h
    have h1 := ih (k + 1) _ (stL_nn hF (c := c) (r := b + n) h0) (stL_rd hF h0 h)
    rw [show k + (n + 1) = k + 1 + n by omega]
    exact h1
theorem wLR {C R np : Int} {N : Int → Int} {gn : Nat → Int} (hF : FlOK C R np N gn) {k : Nat} {c b w : Int} (h0 : 0 ≤ w) (h : rdZ k w) : ∀ n : Nat, wLn N c n b (wRn N c n b w) = w := by
  intro n
  induction n with
  | zero => rfl
  | succ n ih =>
    show wLn N c n b (stL N c (b + n) (stR N c (b + n) (wRn N c n b w))) = w
    have h1 := wRn_rd hF (c := c) (b := b) h0 h n
    rw [stL_stR hF h1.1 h1.2]
    exact ih
theorem wRL {C R np : Int} {N : Int → Int} {gn : Nat → Int} (hF : FlOK C R np N gn) {c b : Int} : ∀ (n k : Nat) (w : Int), 0 ≤ w → rdZ k w → wRn N c n b (wLn N c n b w) = w := by
  intro n
  induction n with
  | zero => intro k w _ _; rfl
  | succ n ih =>
    intro k w h0 h
    show stR N c (b + n) (wRn N c n b (wLn N c n b (stL N c (b + n) w))) = w
    rw [ih (k + 1) _ (stL_nn hF h0) (stL_rd hF h0 h), stR_stL hF h0 h]
/-- a place of the floor: free, its word reduced -/
def GdZ (C R : Int) (N : Int → Int) (z : Int) : Prop := 0 ≤ z ∧ z < 16807 ∧ z / 343 / 7 < C ∧ z / 343 % 7 < R ∧ N (z / 343) = -1 ∧ rdZ 3 (z % 343)
theorem GdZ.pl {C R : Int} {N : Int → Int} {z : Int} (h : GdZ C R N z) : PlOK R z := ⟨h.1, h.2.1, h.2.2.2.1⟩
theorem plZ_mk {C R : Int} {N : Int → Int} {a b w : Int} (hw : w < 343) (ha0 : 0 ≤ a) (ha : a < C) (hb0 : 0 ≤ b) (hb : b < R) (hn : N (a * 7 + b) = -1) : plZ C R N a b w = (a * 7 + b) * 343 + w := by
  unfold plZ
  rw [if_pos ⟨hw, ha0, ha, hb0, hb, hn⟩]
def rvZ (d : Int) : Int := if d = 0 then 2 else if d = 1 then 3 else if d = 2 then 0 else 1
theorem aftZ_back {C R np : Int} {N : Int → Int} {gn : Nat → Int} (hF : FlOK C R np N gn) {z d : Int} (hz : GdZ C R N z) (hd0 : 0 ≤ d) (hd : d ≤ 3) (h : aftZ C R N z d ≠ -1) : GdZ C R N (aftZ C R N z d) ∧ aftZ C R N (aftZ C R N z d) (rvZ d) = z := by
  obtain ⟨z0, z1, zc, zr, zn, zw⟩ := hz
  have hC := hF.2.1
  have hR := hF.2.2.2.1
  have zn' : N (z / 343 / 7 * 7 + z / 343 % 7) = -1 := by rw [show z / 343 / 7 * 7 + z / 343 % 7 = z / 343 by omega]; exact zn
  have zz : (z / 343 / 7 * 7 + z / 343 % 7) * 343 + z % 343 = z := by omega
  rcases (show d = 0 ∨ d = 1 ∨ d = 2 ∨ d = 3 by omega) with rfl | rfl | rfl | rfl
  · rw [aftZ_0] at h ⊢
    obtain ⟨e1, e2, e3, g1, g2, g3, g4, g5, g6, g7⟩ := plZ_c hR (by omega) h
    refine ⟨⟨by omega, by omega, by omega, by omega, ?_, by rw [e3]; exact zw⟩, ?_⟩
    · rw [show plZ C R N (z / 343 / 7) (z / 343 % 7 - 1) (z % 343) / 343 = z / 343 / 7 * 7 + (z / 343 % 7 - 1) by omega]; exact g6
    · show aftZ C R N _ 2 = z
      rw [aftZ_2, e1, e2, e3, show z / 343 % 7 - 1 + 1 = z / 343 % 7 by omega, plZ_mk (by omega) (by omega) zc (by omega) zr zn', zz]
  · rw [aftZ_1] at h ⊢
    have hw := wRn_rd hF (c := z / 343 / 7) (b := z / 343 % 7 + 1) (k := 3) (w := z % 343) (by omega) zw (R - 1 - z / 343 % 7).toNat
    obtain ⟨e1, e2, e3, g1, g2, g3, g4, g5, g6, g7⟩ := plZ_c hR (show 0 ≤ wRZ N R (z / 343 / 7) (z / 343 % 7) (z % 343) from hw.1) h
    refine ⟨⟨by omega, by omega, by omega, by omega, ?_, ?_⟩, ?_⟩
    · rw [show plZ C R N (z / 343 / 7 + 1) (z / 343 % 7) (wRZ N R (z / 343 / 7) (z / 343 % 7) (z % 343)) / 343 = (z / 343 / 7 + 1) * 7 + z / 343 % 7 by omega]; exact g6
    · rw [e3]; exact rdZ_lt 3 _ _ hw.1 (by show _ < (343 : Int); exact g1) hw.2
    · show aftZ C R N _ 3 = z
      rw [aftZ_3, e1, e2, e3, show z / 343 / 7 + 1 - 1 = z / 343 / 7 by omega, show wLZ N R (z / 343 / 7) (z / 343 % 7) (wRZ N R (z / 343 / 7) (z / 343 % 7) (z % 343)) = z % 343 from wLR hF (by omega) zw _, plZ_mk (by omega) (by omega) zc (by omega) zr zn', zz]
  · rw [aftZ_2] at h ⊢
    obtain ⟨e1, e2, e3, g1, g2, g3, g4, g5, g6, g7⟩ := plZ_c hR (by omega) h
    refine ⟨⟨by omega, by omega, by omega, by omega, ?_, by rw [e3]; exact zw⟩, ?_⟩
    · rw [show plZ C R N (z / 343 / 7) (z / 343 % 7 + 1) (z % 343) / 343 = z / 343 / 7 * 7 + (z / 343 % 7 + 1) by omega]; exact g6
    · show aftZ C R N _ 0 = z
      rw [aftZ_0, e1, e2, e3, show z / 343 % 7 + 1 - 1 = z / 343 % 7 by omega, plZ_mk (by omega) (by omega) zc (by omega) zr zn', zz]
  · rw [aftZ_3] at h ⊢
    have hw := wLn_rd hF (c := z / 343 / 7 - 1) (b := z / 343 % 7 + 1) (R - 1 - z / 343 % 7).toNat 3 (z % 343) (by omega) zw
    obtain ⟨e1, e2, e3, g1, g2, g3, g4, g5, g6, g7⟩ := plZ_c hR (show 0 ≤ wLZ N R (z / 343 / 7 - 1) (z / 343 % 7) (z % 343) from hw.1) h
    refine ⟨⟨by omega, by omega, by omega, by omega, ?_, ?_⟩, ?_⟩
    · rw [show plZ C R N (z / 343 / 7 - 1) (z / 343 % 7) (wLZ N R (z / 343 / 7 - 1) (z / 343 % 7) (z % 343)) / 343 = (z / 343 / 7 - 1) * 7 + z / 343 % 7 by omega]; exact g6
    · rw [e3]; exact rdZ_lt 3 _ _ hw.1 (by show _ < (343 : Int); exact g1) hw.2
    · show aftZ C R N _ 1 = z
      rw [aftZ_1, e1, e2, e3, show z / 343 / 7 - 1 + 1 = z / 343 / 7 by omega, show wRZ N R (z / 343 / 7 - 1) (z / 343 % 7) (wLZ N R (z / 343 / 7 - 1) (z / 343 % 7) (z % 343)) = z % 343 from wRL hF _ 3 _ (by omega) zw, plZ_mk (by omega) (by omega) zc (by omega) zr zn', zz]
theorem rvZ_b (d : Int) : 0 ≤ rvZ d ∧ rvZ d ≤ 3 := by
  unfold rvZ
  (repeat' split) <;> omega
/-- so many reduced words of up to 3 letters; so many places -/
def rdB : Nat → Nat → Bool
  | 0, w => w == 0
  | n + 1, w => w == 0 || (w % 7 != 0 && (w / 7 % 7 == 0 || w / 7 % 7 != (if w % 7 % 2 == 1 then w % 7 + 1 else w % 7 - 1)) && rdB n (w / 7))
def gdL : List Int := (List.range 16807).filterMap (fun k => if rdB 3 (k % 343) then some (k : Int) else none)
theorem gdL_len : gdL.length = 9163 := by decide +kernel
theorem rdB_of : ∀ (n w : Nat), rdZ n (w : Int) → rdB n w = true := by
  intro n
  induction n with
  | zero =>
    intro w h
    have h : (w : Int) = 0 := h
    have : w = 0 := by omega
    subst this
    rfl
  | succ n ih =>
    intro w h
    unfold rdB
    rcases h with h | ⟨h1, h2, h3⟩
    · have : w = 0 := by omega
      subst this
      rfl
    · have h4 := ih (w / 7) h3
      have h5 : (w % 7 != 0) = true := by rw [bne_iff_ne]; omega
      have h6 : (w / 7 % 7 == 0 || w / 7 % 7 != (if w % 7 % 2 == 1 then w % 7 + 1 else w % 7 - 1)) = true := by
        rw [Bool.or_eq_true, beq_iff_eq, bne_iff_ne]
        rcases h2 with h2 | h2
        · left; omega
        · right
          intro h7
          apply h2
          unfold oppZ
          by_cases h8 : w % 7 % 2 = 1
          · rw [if_pos (by rw [beq_iff_eq]; exact h8)] at h7
            rw [if_pos (by omega)]
            omega
          · rw [if_neg (by rw [beq_iff_eq]; exact h8)] at h7
            rw [if_neg (by omega)]
            omega
      rw [h4, h5, h6]
      simp
theorem GdZ.mem {C R : Int} {N : Int → Int} {z : Int} (h : GdZ C R N z) : z ∈ gdL := by
  obtain ⟨z0, z1, -, -, -, zw⟩ := h
  refine List.mem_filterMap.mpr ⟨z.toNat, List.mem_range.mpr (by omega), ?_⟩
  rw [if_pos (rdB_of 3 _ (by rw [show ((z.toNat % 343 : Nat) : Int) = z % 343 by omega]; exact zw))]
  rw [Int.toNat_of_nonneg z0]
theorem nodup_len : ∀ (l k : List Int), l.Nodup → (∀ x ∈ l, x ∈ k) → l.length ≤ k.length := by
  intro l
  induction l with
  | nil => intro k _ _; exact Nat.zero_le _
  | cons a l ih =>
    intro k hn hs
    rw [List.nodup_cons] at hn
    have ha : a ∈ k := hs a List.mem_cons_self
    have h1 := ih (k.erase a) hn.2 (fun x hx => (List.mem_erase_of_ne (show x ≠ a from fun e => hn.1 (by rw [← e]; exact hx))).mpr (hs x (List.mem_cons_of_mem _ hx)))
    have h2 := List.length_erase_of_mem ha
    have h3 : 0 < k.length := List.length_pos_of_mem ha
    rw [List.length_cons]
    omega
theorem gd_len {C R : Int} {N : Int → Int} {l : List Int} (hn : l.Nodup) (hg : ∀ z ∈ l, GdZ C R N z) : l.length ≤ 9163 := by
  rw [← gdL_len]
  exact nodup_len l gdL hn (fun x hx => (hg x hx).mem)
end
section
/-! the breadth first search: the places reached in their order, how far, from where -/
abbrev BS : Type := List Int × (Int → Int) × (Int → Int)
def bs0 (s : Int) : BS := ([s], fun z => if z = s then 0 else -1, fun _ => s)
def bsR (S : BS) (q f : Int) : BS := if q ≠ -1 ∧ S.2.1 q = -1 then (S.1 ++ [q], fun z => if z = q then S.2.1 f + 1 else S.2.1 z, fun z => if z = q then f else S.2.2 z) else S
def bsK (nb : Int → Int → Int) (S : BS) (f : Int) : Nat → BS
  | 0 => S
  | d + 1 => bsR (bsK nb S f d) (nb f d) f
def bsAt (S : BS) (i : Nat) : Int := S.1.getD i 0
def bsG (nb : Int → Int → Int) : Nat → Nat → BS → BS
  | 0, _, S => S
  | n + 1, i, S => if i < S.1.length then bsG nb n (i + 1) (bsK nb S (bsAt S i) 4) else S
def bsF (nb : Int → Int → Int) (q : Int) : Nat → Nat → BS → Int × BS
  | 0, _, S => (-1, S)
  | n + 1, i, S => if i < S.1.length then (if bsAt S i / 343 = q then (bsAt S i, S) else bsF nb q n (i + 1) (bsK nb S (bsAt S i) 4)) else (-1, S)
/-- what holds all the while: at place i, its first d directions done -/
def BI (nb : Int → Int → Int) (s : Int) (G : Int → Prop) (S : BS) (i : Nat) (d : Int) : Prop :=
  S.1.Nodup ∧ S.1[0]? = some s ∧ (∀ z, (S.2.1 z = -1 ∧ z ∉ S.1) ∨ (0 ≤ S.2.1 z ∧ z ∈ S.1)) ∧ (∀ z ∈ S.1, G z) ∧ (S.2.1 s = 0 ∧ S.2.2 s = s) ∧
  (∀ z ∈ S.1, z ≠ s → S.2.2 z ∈ S.1 ∧ S.2.1 z = S.2.1 (S.2.2 z) + 1 ∧ ∃ e : Int, 0 ≤ e ∧ e ≤ 3 ∧ nb (S.2.2 z) e = z) ∧
  (∀ j k : Nat, j ≤ k → ∀ y z, S.1[j]? = some y → S.1[k]? = some z → S.2.1 y ≤ S.2.1 z) ∧
  (∀ y, S.1[i]? = some y → ∀ z ∈ S.1, S.2.1 z ≤ S.2.1 y + 1) ∧
  (∀ (j : Nat) (y : Int), S.1[j]? = some y → ∀ e : Int, 0 ≤ e → e ≤ 3 → (j < i ∨ (j = i ∧ e < d)) → nb y e ≠ -1 → nb y e ∈ S.1 ∧ S.2.1 (nb y e) ≤ S.2.1 y + 1)
theorem BI_0 {nb : Int → Int → Int} {s : Int} {G : Int → Prop} (hs : G s) : BI nb s G (bs0 s) 0 0 := by
  have hm : ∀ z, z ∈ (bs0 s).1 ↔ z = s := fun z => by show z ∈ [s] ↔ z = s; exact List.mem_singleton
  have h0 : ∀ (j : Nat) (y : Int), (bs0 s).1[j]? = some y → j = 0 ∧ y = s := by
    intro j y h
    have h : [s][j]? = some y := h
    cases j with
    | zero => exact ⟨rfl, by simpa using h.symm⟩
    | succ j => simp at h
  have hD : ∀ z, (bs0 s).2.1 z = if z = s then 0 else -1 := fun z => rfl
  refine ⟨by show [s].Nodup; simp, rfl, fun z => ?_, fun z hz => by rw [(hm z).mp hz]; exact hs, ⟨by rw [hD, if_pos rfl], rfl⟩, fun z hz hn => absurd ((hm z).mp hz) hn, ?_, ?_, ?_⟩
  · by_cases h : z = s
    · right; rw [hD, if_pos h, hm]; exact ⟨by omega, h⟩
    · left; rw [hD, if_neg h, hm]; exact ⟨rfl, h⟩
  · intro j k _ y z h1 h2
    rw [(h0 j y h1).2, (h0 k z h2).2]
    exact Int.le_refl _
  · intro y h z hz
    rw [(h0 0 y h).2, (hm z).mp hz]
    omega
  · intro j y h e _ _ hj
    have := (h0 j y h).1
    omega
theorem bsR_no {S : BS} {q f : Int} (h : ¬ (q ≠ -1 ∧ S.2.1 q = -1)) : bsR S q f = S := if_neg h
theorem BI_d {nb : Int → Int → Int} {s : Int} {G : Int → Prop} {S : BS} {i : Nat} {d f : Int} (h : BI nb s G S i d) (hf : S.1[i]? = some f) (hd0 : 0 ≤ d) (hd : d ≤ 3) (hG : G f → nb f d ≠ -1 → G (nb f d)) : BI nb s G (bsR S (nb f d) f) i (d + 1) := by
  obtain ⟨h1, h2, h3, h4, h5, h6, h7, h8, h9⟩ := id h
  have hfm : f ∈ S.1 := List.mem_of_getElem? hf
  by_cases hc : nb f d ≠ -1 ∧ S.2.1 (nb f d) = -1
  · have e : bsR S (nb f d) f = (S.1 ++ [nb f d], fun z => if z = nb f d then S.2.1 f + 1 else S.2.1 z, fun z => if z = nb f d then f else S.2.2 z) := if_pos hc
    have hq : nb f d ∉ S.1 := by
      rcases h3 (nb f d) with g | g
      · exact g.2
      · omega
    have hD : ∀ z, (bsR S (nb f d) f).2.1 z = if z = nb f d then S.2.1 f + 1 else S.2.1 z := fun z => by rw [e]
    have hPa : ∀ z, (bsR S (nb f d) f).2.2 z = if z = nb f d then f else S.2.2 z := fun z => by rw [e]
    have hL : (bsR S (nb f d) f).1 = S.1 ++ [nb f d] := by rw [e]
    have hm : ∀ z, z ∈ (bsR S (nb f d) f).1 ↔ z ∈ S.1 ∨ z = nb f d := fun z => by rw [hL, List.mem_append, List.mem_singleton]
    have hDo : ∀ z ∈ S.1, (bsR S (nb f d) f).2.1 z = S.2.1 z := fun z hz => by rw [hD, if_neg (show ¬ z = nb f d from fun ee => hq (ee ▸ hz))]
    have hDq : (bsR S (nb f d) f).2.1 (nb f d) = S.2.1 f + 1 := by rw [hD, if_pos rfl]
    have hs : s ∈ S.1 := List.mem_of_getElem? h2
    have hfD : 0 ≤ S.2.1 f := by
      rcases h3 f with g | g
      · exact absurd hfm g.2
      · exact g.1
    have hat : ∀ (j : Nat) (y : Int), (bsR S (nb f d) f).1[j]? = some y → (S.1[j]? = some y) ∨ (j = S.1.length ∧ y = nb f d) := by
      intro j y hj
      rw [hL] at hj
      by_cases hjl : j < S.1.length
      · rw [List.getElem?_append_left hjl] at hj
        exact Or.inl hj
      · rw [List.getElem?_append_right (by omega)] at hj
        have hz : j - S.1.length < 1 := (List.getElem?_eq_some_iff.mp hj).1
        rw [show j - S.1.length = 0 by omega] at hj
        right
        exact ⟨by omega, by simpa using hj.symm⟩
    have hil : i < S.1.length := (List.getElem?_eq_some_iff.mp hf).1
    refine ⟨?_, ?_, ?_, ?_, ?_, ?_, ?_, ?_, ?_⟩
    · rw [hL, List.nodup_append]
      exact ⟨h1, by simp, fun a ha b hb => by rw [List.mem_singleton.mp hb]; exact fun ee => hq (ee ▸ ha)⟩
    · rw [hL, List.getElem?_append_left (by omega)]
      exact h2
    · intro z
      by_cases hz : z = nb f d
      · right; rw [hD, if_pos hz]; exact ⟨by omega, (hm z).mpr (Or.inr hz)⟩
      · rcases h3 z with g | g
        · left; rw [hD, if_neg hz]
          exact ⟨g.1, fun hh => ((hm z).mp hh).elim g.2 hz⟩
        · right; rw [hD, if_neg hz]
          exact ⟨g.1, (hm z).mpr (Or.inl g.2)⟩
    · intro z hz
      rcases (hm z).mp hz with g | g
      · exact h4 z g
      · rw [g]; exact hG (h4 f hfm) hc.1
    · refine ⟨by rw [hDo s hs]; exact h5.1, ?_⟩
      rw [hPa, if_neg (show ¬ s = nb f d from fun ee => hq (ee ▸ hs))]
      exact h5.2
    · intro z hz hzs
      by_cases hzq : z = nb f d
      · rw [hPa, if_pos hzq, hDo f hfm, hzq, hDq]
        exact ⟨(hm f).mpr (Or.inl hfm), rfl, d, hd0, hd, rfl⟩
      · have hz' : z ∈ S.1 := ((hm z).mp hz).elim id (fun g => absurd g hzq)
        obtain ⟨g1, g2, g3⟩ := h6 z hz' hzs
        rw [hPa, if_neg hzq, hDo z hz', hDo _ g1]
        exact ⟨(hm _).mpr (Or.inl g1), g2, g3⟩
    · intro j k hjk y z hy hz
      rcases hat k z hz with gz | ⟨gz1, gz2⟩
      · rcases hat j y hy with gy | ⟨gy1, gy2⟩
        · rw [hDo y (List.mem_of_getElem? gy), hDo z (List.mem_of_getElem? gz)]
          exact h7 j k hjk y z gy gz
        · have := (List.getElem?_eq_some_iff.mp gz).1
          omega
      · rw [gz2, hDq]
        rcases hat j y hy with gy | ⟨gy1, gy2⟩
        · rw [hDo y (List.mem_of_getElem? gy)]
          exact h8 f hf y (List.mem_of_getElem? gy)
        · rw [gy2, hDq]
          exact Int.le_refl _
    · intro y hy z hz
      have hy' : y = f := by
        rcases hat i y hy with g | ⟨g1, -⟩
        · exact Option.some.inj (g.symm.trans hf)
        · omega
      rw [hy', hDo f hfm]
      rcases (hm z).mp hz with g | g
      · rw [hDo z g]; exact h8 f hf z g
      · rw [g, hDq]; exact Int.le_refl _
    · intro j y hy ee he0 he3 hj hne
      rcases hat j y hy with g | ⟨g1, -⟩
      · have hym := List.mem_of_getElem? g
        by_cases hnew : j = i ∧ ee = d
        · have hyf : y = f := by
            rw [hnew.1] at g
            exact Option.some.inj (g.symm.trans hf)
          rw [hyf, hnew.2, hDq, hDo f hfm]
          exact ⟨(hm _).mpr (Or.inr rfl), Int.le_refl _⟩
        · obtain ⟨k1, k2⟩ := h9 j y g ee he0 he3 (by omega) hne
          rw [hDo _ k1, hDo y hym]
          exact ⟨(hm _).mpr (Or.inl k1), k2⟩
      · omega
  · rw [bsR_no hc]
    refine ⟨h1, h2, h3, h4, h5, h6, h7, h8, ?_⟩
    intro j y hy ee he0 he3 hj hne
    by_cases hnew : j = i ∧ ee = d
    · have hyf : y = f := by
        rw [hnew.1] at hy
        exact Option.some.inj (hy.symm.trans hf)
      rw [hyf, hnew.2] at hne ⊢
      have hmem : nb f d ∈ S.1 := by
        rcases h3 (nb f d) with g | g
        · exact absurd ⟨hne, g.1⟩ hc
        · exact g.2
      exact ⟨hmem, h8 f hf _ hmem⟩
    · exact h9 j y hy ee he0 he3 (by omega) hne
theorem BI_i {nb : Int → Int → Int} {s : Int} {G : Int → Prop} {S : BS} {i : Nat} {d : Int} (h : BI nb s G S i d) (hd : 3 < d) : BI nb s G S (i + 1) 0 := by
  obtain ⟨h1, h2, h3, h4, h5, h6, h7, h8, h9⟩ := h
  refine ⟨h1, h2, h3, h4, h5, h6, h7, ?_, ?_⟩
  · intro y hy z hz
    have hl := (List.getElem?_eq_some_iff.mp hy).1
    have hi : S.1[i]? = some S.1[i] := List.getElem?_eq_getElem (by omega)
    have k1 := h8 _ hi z hz
    have k2 := h7 i (i + 1) (by omega) _ y hi hy
    omega
  · intro j y hy e he0 he3 hj hne
    exact h9 j y hy e he0 he3 (by omega) hne
theorem bsR_len (S : BS) (q f : Int) : S.1.length ≤ (bsR S q f).1.length ∧ (∀ (j : Nat) (y : Int), S.1[j]? = some y → (bsR S q f).1[j]? = some y) := by
  unfold bsR
  split
  · refine ⟨by simp, fun j y h => ?_⟩
    show (S.1 ++ [q])[j]? = some y
    rw [List.getElem?_append_left (List.getElem?_eq_some_iff.mp h).1]
    exact h
  · exact ⟨Nat.le_refl _, fun _ _ h => h⟩
theorem bsK_at (nb : Int → Int → Int) (S : BS) (f : Int) (d : Nat) : ∀ (j : Nat) (y : Int), S.1[j]? = some y → (bsK nb S f d).1[j]? = some y := by
  induction d with
  | zero => exact fun _ _ h => h
  | succ d ih => exact fun j y h => (bsR_len _ _ _).2 j y (ih j y h)
theorem bsAt_some {S : BS} {i : Nat} (h : i < S.1.length) : S.1[i]? = some (bsAt S i) := by
  unfold bsAt
  rw [List.getD_eq_getElem?_getD, List.getElem?_eq_getElem h]
  rfl
theorem BI_K {nb : Int → Int → Int} {s : Int} {G : Int → Prop} {S : BS} {i : Nat} {f : Int} (h : BI nb s G S i 0) (hf : S.1[i]? = some f) (hG : ∀ d : Int, 0 ≤ d → d ≤ 3 → G f → nb f d ≠ -1 → G (nb f d)) : ∀ d : Nat, d ≤ 4 → BI nb s G (bsK nb S f d) i d := by
  intro d
  induction d with
  | zero => intro _; exact h
  | succ d ih =>
    intro hd
    have h2 := BI_d (ih (by omega)) (bsK_at nb S f d i f hf) (by omega) (by omega) (hG d (by omega) (by omega))
    rw [show ((d + 1 : Nat) : Int) = (d : Int) + 1 by omega]
    exact h2
/-- the whole search -/
def BF (nb : Int → Int → Int) (s : Int) : BS := bsG nb 16807 0 (bs0 s)
theorem BI_G {nb : Int → Int → Int} {s : Int} {G : Int → Prop} (hG : ∀ f d : Int, 0 ≤ d → d ≤ 3 → G f → nb f d ≠ -1 → G (nb f d)) : ∀ (n i : Nat) (S : BS), BI nb s G S i 0 → ∃ k, BI nb s G (bsG nb n i S) k 0 ∧ ((bsG nb n i S).1.length ≤ k ∨ k = i + n) := by
  intro n
  induction n with
  | zero => intro i S h; exact ⟨i, h, Or.inr rfl⟩
  | succ n ih =>
    intro i S h
    show ∃ k, BI nb s G (if i < S.1.length then bsG nb n (i + 1) (bsK nb S (bsAt S i) 4) else S) k 0 ∧ ((if i < S.1.length then bsG nb n (i + 1) (bsK nb S (bsAt S i) 4) else S).1.length ≤ k ∨ k = i + (n + 1))
    by_cases hl : i < S.1.length
    · rw [if_pos hl]
      have h2 := BI_i (BI_K h (bsAt_some hl) (fun d h0 h3 => hG _ d h0 h3) 4 (Nat.le_refl _)) (by decide)
      obtain ⟨k, k1, k2⟩ := ih (i + 1) _ h2
      exact ⟨k, k1, by omega⟩
    · rw [if_neg hl]
      exact ⟨i, h, Or.inl (by omega)⟩
/-- .. at its end: every step from a place reached leads to one, at most one farther -/
theorem BF_end {nb : Int → Int → Int} {s : Int} {G : Int → Prop} (hG : ∀ f d : Int, 0 ≤ d → d ≤ 3 → G f → nb f d ≠ -1 → G (nb f d)) (hs : G s) (hlen : ∀ l : List Int, l.Nodup → (∀ z ∈ l, G z) → l.length ≤ 16807) : ∃ k, BI nb s G (BF nb s) k 0 ∧ (BF nb s).1.length ≤ k := by
  obtain ⟨k, k1, k2⟩ := BI_G hG 16807 0 (bs0 s) (BI_0 hs)
  refine ⟨k, k1, ?_⟩
  have := hlen (BF nb s).1 k1.1 k1.2.2.2.1
  unfold BF at this ⊢
  omega
theorem BF_close {nb : Int → Int → Int} {s : Int} {G : Int → Prop} {S : BS} {k : Nat} (h : BI nb s G S k 0) (hk : S.1.length ≤ k) {y e : Int} (hy : y ∈ S.1) (he0 : 0 ≤ e) (he : e ≤ 3) (hn : nb y e ≠ -1) : nb y e ∈ S.1 ∧ S.2.1 (nb y e) ≤ S.2.1 y + 1 := by
  obtain ⟨j, hj⟩ := List.getElem?_of_mem hy
  have := (List.getElem?_eq_some_iff.mp hj).1
  exact h.2.2.2.2.2.2.2.2 j y hj e he0 he (Or.inl (by omega)) hn
end
section
/-! methods that change cells: a world ws at the start, W u at the end; nothing else changed -/
def rmM (k mc ms : Nat) : Room := { frames := k, cells := mc, slots := ms, locals := 64 * k }
def MPre (D : va_G) (cI cJ : ClassId) (ws : va_W) (sz : Nat) : State → Prop := fun U => U.heap.size = sz ∧ va_P D vwCl ws U.heap ∧ KK D cI cJ U ∧ va_D (fun _ => True) ws
def QMi (D : va_G) (A : Nat → Prop) {S : Type} (post : Int → S → Prop) (Wf : S → va_W) : Array Value → State → Outcome → State → Prop := va_Qi (fun r u => ∃ z : Int, r = iI z ∧ post z u) (fun u t => va_P D vwCl (Wf u) t.heap ∧ va_D A (Wf u)) A
def QMv (D : va_G) (A : Nat → Prop) {S : Type} (post : S → Prop) (Wf : S → va_W) : Array Value → State → Outcome → State → Prop := va_Qv post (fun u t => va_P D vwCl (Wf u) t.heap ∧ va_D A (Wf u)) A
def MMi (l : Launch) (y : MethodName) (cd : Cond) (k mc ms : Nat) (As : List Value) (D : va_G) (cI cJ : ClassId) (ws : va_W) (sz : Nat) {S : Type} (post : Int → S → Prop) (Wf : S → va_W) : Prop :=
  Met l y (cd :: GW) (rmM k mc ms) (va_Pc As (MPre D cI cJ ws sz)) (QMi D (va_A ws sz) post Wf) mc ms (va_A ws sz)
def MMv (l : Launch) (y : MethodName) (cd : Cond) (k mc ms : Nat) (As : List Value) (D : va_G) (cI cJ : ClassId) (ws : va_W) (sz : Nat) {S : Type} (post : S → Prop) (Wf : S → va_W) : Prop :=
  Met l y (cd :: GW) (rmM k mc ms) (va_Pc As (MPre D cI cJ ws sz)) (QMv D (va_A ws sz) post Wf) mc ms (va_A ws sz)
theorem MPre_blind {As : List Value} {D : va_G} {cI cJ : ClassId} {ws : va_W} {sz : Nat} : FrameBlind (va_Pc As (MPre D cI cJ ws sz)) := fun a U g mk q => ⟨q.1, q.2.1, q.2.2.1, q.2.2.2.1.calling, q.2.2.2.2⟩
theorem MM_of {l : Launch} {y : MethodName} {k mc ms : Nat} {As : List Value} {D : va_G} {cI cJ : ClassId} {ws : va_W} {sz : Nat} {Qc : (Nat → Prop) → Array Value → State → Outcome → State → Prop} {cc : ByteArray} {maxL : Nat} {ret : Option FieldType} {own : String}
    (hy : plainName y.cls = true) (ho : y.cls = own) (hn : (lg_sl As).length ≤ maxL)
    (body : ∀ (p : Program) (e : Env) (s : State) (m : MethodId) (below : List Frame) (meth : Method) (c : Code) (ls : Array Slot) (A : Nat → Prop), p.tables.exec = Jvm.exec → c.code = cc → meth.sig.returnType = ret → (∀ w ∈ GW, w.before As.toArray s = true) → s.vm.findClass own = some m.cls → meth.locks = false → c.maxLocals = maxL → meth.name = y.name → KK D cI cJ s → va_P D vwCl ws s.heap → va_D A ws → (∀ q : Nat, s.heap.size ≤ q → A q) → va_S A s.heap s.heap [] → lv_has ls maxL (lv_args 0 As) →
      W p l e (rmM k mc ms) s m As.toArray below meth c s.heap [] 0 0 (MQ below (Qc A) As.toArray s mc ms A) (F0 m 0 ls [])) : Met l y (.code y cc maxL ret :: GW) (rmM k mc ms) (va_Pc As (MPre D cI cJ ws sz)) (Qc (va_A ws sz)) mc ms (va_A ws sz) := by
  refine Met.ofW (cc := cc) (maxL := maxL) (ret := ret) hy rfl ?_
  intro p e s m args below meth c s₁ B hml hv
  obtain ⟨rfl, hsz, hP, hK, hD0⟩ := hv
  subst hsz
  have hts := atoms_spec (ws := Cond.code y cc maxL ret :: GW) B.pre
  have hl := lv_entry As (n := maxL) hn
  rw [lg_entry_eq]
  exact body p e s m below meth c _ (va_A ws s.heap.size) B.exec B.bytes B.returns (fun w h => hts w (List.mem_cons_of_mem _ h)) (by rw [← ho]; exact findClass_of_methodNamed B.named) B.notSynchronized hml (name_of_methodNamed B.named B.method).1 hK hP hD0.self (fun q h => Or.inr h) va_S.rf hl
section MC
variable {p : Program} {l : Launch} {e : Env} {R : Room} {s : State} {m : MethodId} {args : Array Value} {below : List Frame} {meth : Method} {c : Code} {H : Heap} {locs : List Loc} {cells slots : Nat} {Q : State → Prop}
variable {cc : ByteArray} {pc : Nat} {ls : Array Slot} {rest st : List Value} {D : va_G} {cI cJ : ClassId} {A : Nat → Prop}
theorem MM_iret {S : Type} {post : Int → S → Prop} {Wf : S → va_W} {mc ms : Nat} {x : Int} (u : S) (hexec : p.tables.exec = Jvm.exec) (hb : c.code = cc) (hr : meth.sig.returnType = some .int) (hlocks : meth.locks = false) (hP : va_P D vwCl (Wf u) H) (hD : va_D A (Wf u)) (hS : va_S A s.heap H locs) (hc : cells ≤ mc) (hs : slots ≤ ms) (hdg : decode cc pc = .ok (.ireturn, 1)) (hq : post x u) :
    W p l e R s m args below meth c H locs cells slots (MQ below (QMi D A post Wf) args s mc ms A) (F0 m pc ls [.int (iI x)]) :=
  W.widen hc hs (W.iret hexec hb hr (fun t ht hW => ⟨⟨iI x, u, rfl, ⟨x, rfl, hq⟩, by rw [ht]; exact hP, hD⟩, hS.F ht⟩) hS.2.2 hdg hlocks)
theorem MM_zret {S : Type} {post : Int → S → Prop} {Wf : S → va_W} {mc ms : Nat} {x : Int} (u : S) (hexec : p.tables.exec = Jvm.exec) (hb : c.code = cc) (hr : meth.sig.returnType = some .boolean) (hlocks : meth.locks = false) (hP : va_P D vwCl (Wf u) H) (hD : va_D A (Wf u)) (hS : va_S A s.heap H locs) (hc : cells ≤ mc) (hs : slots ≤ ms) (hdg : decode cc pc = .ok (.ireturn, 1)) (hn : narrow .boolean (.int (iI x)) = .int (iI x)) (hq : post x u) :
    W p l e R s m args below meth c H locs cells slots (MQ below (QMi D A post Wf) args s mc ms A) (F0 m pc ls [.int (iI x)]) :=
  W.widen hc hs (W.zret hexec hb hr hn (fun t ht hW => ⟨⟨iI x, u, rfl, ⟨x, rfl, hq⟩, by rw [ht]; exact hP, hD⟩, hS.F ht⟩) hS.2.2 hdg hlocks)
theorem MM_vret {S : Type} {post : S → Prop} {Wf : S → va_W} {mc ms : Nat} (u : S) (hexec : p.tables.exec = Jvm.exec) (hb : c.code = cc) (hr : meth.sig.returnType = none) (hlocks : meth.locks = false) (hP : va_P D vwCl (Wf u) H) (hD : va_D A (Wf u)) (hS : va_S A s.heap H locs) (hc : cells ≤ mc) (hs : slots ≤ ms) (hdg : decode cc pc = .ok (.return_, 1)) (hq : post u) :
    W p l e R s m args below meth c H locs cells slots (MQ below (QMv D A post Wf) args s mc ms A) (F0 m pc ls []) :=
  W.widen hc hs (W.vret hexec hb hr (fun t ht hW => ⟨⟨u, rfl, hq, by rw [ht]; exact hP, hD⟩, hS.F ht⟩) hS.2.2 hdg hlocks)
/-- behind a call that gives an int -/
theorem MM_goi {S : Type} {post : Int → S → Prop} {Wf : S → va_W} {ws wc wr : va_W} {mc ms : Nat} {a : Array Value} (hP : va_P D vwCl ws H) (hD : va_D A ws) (hS : va_S A s.heap H locs) (hA : ∀ q : Nat, s.heap.size ≤ q → A q) (pl rl : List Nat) (hC : pl.map (fun i => ws[i]?) = wc.map some) (hR : rl.map (fun i => ws[i]?) = wr.map some) (hn : va_nd rl = true) (hdis : ∀ i ∈ rl, i ∉ pl)
    (hr : va_Run p l e R s m args below meth c H locs cells slots mc ms (F0 m pc ls st) rest (QMi D (va_A wc H.size) post Wf a) (va_A wc H.size))
    (kk : ∀ (r : Int) (u : S) (H1 : Heap) (locs1 : List Loc), post r u → va_P D vwCl (wr ++ Wf u) H1 → va_D A (wr ++ Wf u) → va_S A s.heap H1 locs1 → W p l e R s m args below meth c H1 locs1 (cells + mc) (slots + ms) Q (F0 m (pc + 3) ls (.int (iI r) :: rest))) : W p l e R s m args below meth c H locs cells slots Q (F0 m pc ls st) := by
  have hF := va_free (wc := wc) hD hS hA pl hC
  refine va_calli hr hS (fun q _ h => hF q h) hF (fun r u t H1 locs1 ht hvm hw hB hz hk hS1 => ?_)
  obtain ⟨z, rfl, hq⟩ := hw
  obtain ⟨hP1, hD1⟩ := hB
  rw [ht] at hP1
  obtain ⟨hP2, hD2⟩ := va_join hP hD pl rl hC hR hn hdis hk hF hP1 hD1
  exact kk z u H1 locs1 hq hP2 hD2 hS1
theorem MM_gov {S : Type} {post : S → Prop} {Wf : S → va_W} {ws wc wr : va_W} {mc ms : Nat} {a : Array Value} (hP : va_P D vwCl ws H) (hD : va_D A ws) (hS : va_S A s.heap H locs) (hA : ∀ q : Nat, s.heap.size ≤ q → A q) (pl rl : List Nat) (hC : pl.map (fun i => ws[i]?) = wc.map some) (hR : rl.map (fun i => ws[i]?) = wr.map some) (hn : va_nd rl = true) (hdis : ∀ i ∈ rl, i ∉ pl)
    (hr : va_Run p l e R s m args below meth c H locs cells slots mc ms (F0 m pc ls st) rest (QMv D (va_A wc H.size) post Wf a) (va_A wc H.size))
    (kk : ∀ (u : S) (H1 : Heap) (locs1 : List Loc), post u → va_P D vwCl (wr ++ Wf u) H1 → va_D A (wr ++ Wf u) → va_S A s.heap H1 locs1 → W p l e R s m args below meth c H1 locs1 (cells + mc) (slots + ms) Q (F0 m (pc + 3) ls rest)) : W p l e R s m args below meth c H locs cells slots Q (F0 m pc ls st) := by
  have hF := va_free (wc := wc) hD hS hA pl hC
  refine va_callv hr hS (fun q _ h => hF q h) hF (fun u t H1 locs1 ht hvm hw hB hz hk hS1 => ?_)
  obtain ⟨hP1, hD1⟩ := hB
  rw [ht] at hP1
  obtain ⟨hP2, hD2⟩ := va_join hP hD pl rl hC hR hn hdis hk hF hP1 hD1
  exact kk u H1 locs1 hw hP2 hD2 hS1
theorem MM_pre {As : List Value} {ws wc : va_W} (hK : KK D cI cJ s) (hP : va_P D vwCl ws H) (hD : va_D A ws) (pl : List Nat) (hC : pl.map (fun i => ws[i]?) = wc.map some) (hn : va_nd pl = true) (hs : pl.filterMap (fun i => ws[i]?) = wc) : ∀ U : State, U.heap = H → s.WarmedH U.vm → va_Pc As (MPre D cI cJ wc H.size) As.toArray U :=
  fun U hU hW => ⟨rfl, by rw [hU], by rw [hU]; exact hP.sub pl hs, hK.warm hW, (hD.sub pl hn hC).weaken (fun _ _ _ _ => trivial)⟩
theorem fm_of {ws wc : va_W} {pl : List Nat} (hC : pl.map (fun i => ws[i]?) = wc.map some) : pl.filterMap (fun i => ws[i]?) = wc := by
  have h : pl.filterMap (fun i => ws[i]?) = (pl.map (fun i => ws[i]?)).filterMap id := by rw [List.filterMap_map]; rfl
  rw [h, hC]
  induction wc with
  | nil => rfl
  | cons a t ih => simp
/-- calls of methods that change cells: on an object of the world .. -/
theorem zm_Vi {y : MethodName} {bytes : ByteArray} {maxL index k n mc ms : Nat} {ret : Option FieldType} {own C : String} {b : Addr} {As : List Value} {ws wc wr : va_W} {S : Type} {post : Int → S → Prop} {Wf : S → va_W} (hexec : p.tables.exec = Jvm.exec) (hb : c.code = cc) (hml : c.maxLocals = ls.size) (hts : ∀ w ∈ GW, w.before args s = true) (hown : s.vm.findClass own = some m.cls) (hK : KK D cI cJ s) (hP : va_P D vwCl ws H) (hD : va_D A ws) (hS : va_S A s.heap H locs) (hA : ∀ q : Nat, s.heap.size ≤ q → A q)
    (hM : MMi l y (.code y bytes maxL ret) k mc ms (.ref b :: As) D cI cJ wc H.size post Wf) (hG : GoodIn GW (wsV own index C y (.code y bytes maxL ret :: GW))) (hd : y.cls = C ∧ y.cls ≠ "java/lang/invoke/MethodHandle" ∧ y.cls ≠ "java/lang/invoke/VarHandle" ∧ (parseMethodDescriptor y.desc).map (fun d => d.parameters.length) = some n) (hn : As.length = n)
    (hR : k + 1 ≤ R.frames ∧ 8 + (maxL + 11) + 64 * k ≤ R.locals) (hf : cells + mc ≤ R.cells ∧ slots + ms ≤ R.slots) (pl rl : List Nat) (hC : pl.map (fun i => ws[i]?) = wc.map some) (hRl : rl.map (fun i => ws[i]?) = wr.map some) (hn1 : va_nd pl = true) (hn2 : va_nd rl = true) (hdis : ∀ i ∈ rl, i ∉ pl) (q0 : Nat) {ci : Nat} {fs : List Value} {q : vw_C} (hc : vwCl[ci]? = some q) (hq : q.1 = C) (he : ws[q0]? = some (b, .inr (ci, fs))) (hst : st = As.reverse ++ .ref b :: rest) (hW : (rest.map fun v => v.category).sum ≤ 8) (hdg : decode cc pc = .ok (.invokevirtual index, 3))
    (kk : ∀ (r : Int) (u : S) (H1 : Heap) (locs1 : List Loc), post r u → va_P D vwCl (wr ++ Wf u) H1 → va_D A (wr ++ Wf u) → va_S A s.heap H1 locs1 → W p l e R s m args below meth c H1 locs1 (cells + mc) (slots + ms) Q (F0 m (pc + 3) ls (.int (iI r) :: rest))) : W p l e R s m args below meth c H locs cells slots Q (F0 m pc ls st) := by
  have hr := va_recv hK.1 hP hc he
  rw [hq] at hr
  exact MM_goi hP hD hS hA pl rl hC hRl hn2 hdis (va_runV (C := C) (As := As) (rest := rest) (nL := ls.size) ⟨hexec, hb, hml, hown, hts⟩ hM (cwV n hts hG rfl rfl rfl hd hR) ⟨MPre_blind, hr, MM_pre hK hP hD pl hC hn1 (fm_of hC)⟩ rfl hn rfl hst (lv_room hW) hdg hf) kk
theorem zm_Vv {y : MethodName} {bytes : ByteArray} {maxL index k n mc ms : Nat} {own C : String} {b : Addr} {As : List Value} {ws wc wr : va_W} {S : Type} {post : S → Prop} {Wf : S → va_W} (hexec : p.tables.exec = Jvm.exec) (hb : c.code = cc) (hml : c.maxLocals = ls.size) (hts : ∀ w ∈ GW, w.before args s = true) (hown : s.vm.findClass own = some m.cls) (hK : KK D cI cJ s) (hP : va_P D vwCl ws H) (hD : va_D A ws) (hS : va_S A s.heap H locs) (hA : ∀ q : Nat, s.heap.size ≤ q → A q)
    (hM : MMv l y (.code y bytes maxL none) k mc ms (.ref b :: As) D cI cJ wc H.size post Wf) (hG : GoodIn GW (wsV own index C y (.code y bytes maxL none :: GW))) (hd : y.cls = C ∧ y.cls ≠ "java/lang/invoke/MethodHandle" ∧ y.cls ≠ "java/lang/invoke/VarHandle" ∧ (parseMethodDescriptor y.desc).map (fun d => d.parameters.length) = some n) (hn : As.length = n)
    (hR : k + 1 ≤ R.frames ∧ 8 + (maxL + 11) + 64 * k ≤ R.locals) (hf : cells + mc ≤ R.cells ∧ slots + ms ≤ R.slots) (pl rl : List Nat) (hC : pl.map (fun i => ws[i]?) = wc.map some) (hRl : rl.map (fun i => ws[i]?) = wr.map some) (hn1 : va_nd pl = true) (hn2 : va_nd rl = true) (hdis : ∀ i ∈ rl, i ∉ pl) (q0 : Nat) {ci : Nat} {fs : List Value} {q : vw_C} (hc : vwCl[ci]? = some q) (hq : q.1 = C) (he : ws[q0]? = some (b, .inr (ci, fs))) (hst : st = As.reverse ++ .ref b :: rest) (hW : (rest.map fun v => v.category).sum ≤ 8) (hdg : decode cc pc = .ok (.invokevirtual index, 3))
    (kk : ∀ (u : S) (H1 : Heap) (locs1 : List Loc), post u → va_P D vwCl (wr ++ Wf u) H1 → va_D A (wr ++ Wf u) → va_S A s.heap H1 locs1 → W p l e R s m args below meth c H1 locs1 (cells + mc) (slots + ms) Q (F0 m (pc + 3) ls rest)) : W p l e R s m args below meth c H locs cells slots Q (F0 m pc ls st) := by
  have hr := va_recv hK.1 hP hc he
  rw [hq] at hr
  exact MM_gov hP hD hS hA pl rl hC hRl hn2 hdis (va_runV (C := C) (As := As) (rest := rest) (nL := ls.size) ⟨hexec, hb, hml, hown, hts⟩ hM (cwV n hts hG rfl rfl rfl hd hR) ⟨MPre_blind, hr, MM_pre hK hP hD pl hC hn1 (fm_of hC)⟩ rfl hn rfl hst (lv_room hW) hdg hf) kk
/-- .. a static one of another class .. -/
theorem zm_Sv {y : MethodName} {bytes : ByteArray} {maxL index k n mc ms : Nat} {own : String} {As : List Value} {ws wc wr : va_W} {S : Type} {post : S → Prop} {Wf : S → va_W} (hexec : p.tables.exec = Jvm.exec) (hb : c.code = cc) (hml : c.maxLocals = ls.size) (hts : ∀ w ∈ GW, w.before args s = true) (hown : s.vm.findClass own = some m.cls) (hK : KK D cI cJ s) (hP : va_P D vwCl ws H) (hD : va_D A ws) (hS : va_S A s.heap H locs) (hA : ∀ q : Nat, s.heap.size ≤ q → A q)
    (hM : MMv l y (.code y bytes maxL none) k mc ms As D cI cJ wc H.size post Wf) (hG : GoodIn GW (va_wsS own index y (.code y bytes maxL none :: GW))) (hd : y.cls ≠ "java/lang/invoke/MethodHandle" ∧ y.cls ≠ "java/lang/invoke/VarHandle" ∧ (parseMethodDescriptor y.desc).map (fun d => d.parameters.length) = some n) (hn : As.length = n)
    (hR : k + 1 ≤ R.frames ∧ 8 + (maxL + 11) + 64 * k ≤ R.locals) (hf : cells + mc ≤ R.cells ∧ slots + ms ≤ R.slots) (pl rl : List Nat) (hC : pl.map (fun i => ws[i]?) = wc.map some) (hRl : rl.map (fun i => ws[i]?) = wr.map some) (hn1 : va_nd pl = true) (hn2 : va_nd rl = true) (hdis : ∀ i ∈ rl, i ∉ pl) (hst : st = As.reverse ++ rest) (hW : (rest.map fun v => v.category).sum ≤ 8) (hdg : decode cc pc = .ok (.invokestatic index, 3))
    (kk : ∀ (u : S) (H1 : Heap) (locs1 : List Loc), post u → va_P D vwCl (wr ++ Wf u) H1 → va_D A (wr ++ Wf u) → va_S A s.heap H1 locs1 → W p l e R s m args below meth c H1 locs1 (cells + mc) (slots + ms) Q (F0 m (pc + 3) ls rest)) : W p l e R s m args below meth c H locs cells slots Q (F0 m pc ls st) :=
  MM_gov hP hD hS hA pl rl hC hRl hn2 hdis (va_runS (As := As) (rest := rest) (nL := ls.size) ⟨hexec, hb, hml, hown, hts⟩ hM (va_cwS n hts hG rfl rfl rfl hd hR) ⟨MPre_blind, MM_pre hK hP hD pl hC hn1 (fm_of hC)⟩ rfl hn rfl hst (lv_room hW) hdg hf) kk
/-- .. a constructor .. -/
theorem zm_I {y : MethodName} {bytes : ByteArray} {maxL index k n mc ms : Nat} {own : String} {b : Addr} {As : List Value} {ws wc wr : va_W} {S : Type} {post : S → Prop} {Wf : S → va_W} (hexec : p.tables.exec = Jvm.exec) (hb : c.code = cc) (hml : c.maxLocals = ls.size) (hts : ∀ w ∈ GW, w.before args s = true) (hown : s.vm.findClass own = some m.cls) (hK : KK D cI cJ s) (hP : va_P D vwCl ws H) (hD : va_D A ws) (hS : va_S A s.heap H locs) (hA : ∀ q : Nat, s.heap.size ≤ q → A q)
    (hM : MMv l y (.code y bytes maxL none) k mc ms (.ref b :: As) D cI cJ wc H.size post Wf) (hcd : Cond.code y bytes maxL none ∈ GW) (hini : Cond.initialized y.cls ∈ GW) (hlk : Cond.methodLink own index y ∈ GW) (hin : Cond.instanceMethod y ∈ GW) (hy1 : y.name = "<init>") (hd : y.cls ≠ "java/lang/invoke/MethodHandle" ∧ y.cls ≠ "java/lang/invoke/VarHandle" ∧ (parseMethodDescriptor y.desc).map (fun d => d.parameters.length) = some n) (hn : As.length = n)
    (hR : k + 1 ≤ R.frames ∧ 8 + (maxL + 11) + 64 * k ≤ R.locals) (hf : cells + mc ≤ R.cells ∧ slots + ms ≤ R.slots) (pl rl : List Nat) (hC : pl.map (fun i => ws[i]?) = wc.map some) (hRl : rl.map (fun i => ws[i]?) = wr.map some) (hn1 : va_nd pl = true) (hn2 : va_nd rl = true) (hdis : ∀ i ∈ rl, i ∉ pl) (hst : st = As.reverse ++ .ref b :: rest) (hW : (rest.map fun v => v.category).sum ≤ 8) (hdg : decode cc pc = .ok (.invokespecial index, 3))
    (kk : ∀ (u : S) (H1 : Heap) (locs1 : List Loc), post u → va_P D vwCl (wr ++ Wf u) H1 → va_D A (wr ++ Wf u) → va_S A s.heap H1 locs1 → W p l e R s m args below meth c H1 locs1 (cells + mc) (slots + ms) Q (F0 m (pc + 3) ls rest)) : W p l e R s m args below meth c H locs cells slots Q (F0 m pc ls st) :=
  MM_gov hP hD hS hA pl rl hC hRl hn2 hdis (va_runI (As := As) (rest := rest) (nL := ls.size) ⟨hexec, hb, hml, hown, hts⟩ hM (cwI n hts (gw_good (gw_cons hcd fun _ h => h)) rfl rfl rfl (hts _ hini) (hts _ hlk) (hts _ hin) hy1 hd hR) ⟨MPre_blind, MM_pre hK hP hD pl hC hn1 (fm_of hC)⟩ rfl hn rfl hst (lv_room hW) hdg hf) kk
/-- .. a private one of a nest mate -/
theorem zm_IN {y : MethodName} {bytes : ByteArray} {maxL index k n mc ms : Nat} {own : String} {b : Addr} {As : List Value} {ws wc wr : va_W} {S : Type} {post : S → Prop} {Wf : S → va_W} (hexec : p.tables.exec = Jvm.exec) (hb : c.code = cc) (hml : c.maxLocals = ls.size) (hts : ∀ w ∈ GW, w.before args s = true) (hown : s.vm.findClass own = some m.cls) (hK : KK D cI cJ s) (hP : va_P D vwCl ws H) (hD : va_D A ws) (hS : va_S A s.heap H locs) (hA : ∀ q : Nat, s.heap.size ≤ q → A q)
    (hM : MMv l y (.code y bytes maxL none) k mc ms (.ref b :: As) D cI cJ wc H.size post Wf) (hcd : Cond.code y bytes maxL none ∈ GW) (hini : Cond.initialized y.cls ∈ GW) (hnt : (own, index, y) ∈ nestT) (hin : Cond.instanceMethod y ∈ GW) (hy1 : y.name = "<init>") (hd : y.cls ≠ "java/lang/invoke/MethodHandle" ∧ y.cls ≠ "java/lang/invoke/VarHandle" ∧ (parseMethodDescriptor y.desc).map (fun d => d.parameters.length) = some n) (hn : As.length = n)
    (hR : k + 1 ≤ R.frames ∧ 8 + (maxL + 11) + 64 * k ≤ R.locals) (hf : cells + mc ≤ R.cells ∧ slots + ms ≤ R.slots) (pl rl : List Nat) (hC : pl.map (fun i => ws[i]?) = wc.map some) (hRl : rl.map (fun i => ws[i]?) = wr.map some) (hn1 : va_nd pl = true) (hn2 : va_nd rl = true) (hdis : ∀ i ∈ rl, i ∉ pl) (hst : st = As.reverse ++ .ref b :: rest) (hW : (rest.map fun v => v.category).sum ≤ 8) (hdg : decode cc pc = .ok (.invokespecial index, 3))
    (kk : ∀ (u : S) (H1 : Heap) (locs1 : List Loc), post u → va_P D vwCl (wr ++ Wf u) H1 → va_D A (wr ++ Wf u) → va_S A s.heap H1 locs1 → W p l e R s m args below meth c H1 locs1 (cells + mc) (slots + ms) Q (F0 m (pc + 3) ls rest)) : W p l e R s m args below meth c H locs cells slots Q (F0 m pc ls st) :=
  MM_gov hP hD hS hA pl rl hC hRl hn2 hdis (va_runIN (host := "Tetherline") (As := As) (rest := rest) (nL := ls.size) ⟨hexec, hb, hml, hown, hts⟩ hM ⟨va_cnB n hts (gw_good (gw_cons hcd fun _ h => h)) rfl rfl rfl (hK.2 _ hnt) (hts _ hini) hd hR, hy1, hts _ hin⟩ ⟨MPre_blind, MM_pre hK hP hD pl hC hn1 (fm_of hC)⟩ rfl hn rfl hst (lv_room hW) hdg hf) kk
/-- an int array is made -/
theorem zm_newa (hexec : p.tables.exec = Jvm.exec) (hb : c.code = cc) (harr : (Cond.arrayClass .int).before args s = true) (hK : KK D cI cJ s) {ws : va_W} (hP : va_P D vwCl ws H) (hD : va_D A ws) (hS : va_S A s.heap H locs) (hA : ∀ q : Nat, s.heap.size ≤ q → A q) {z : Int} {n : Nat} (hz : z = (n : Int)) (hn : n < 1000000) (hcells : cells + 1 ≤ R.cells) (hslots : slots + n ≤ R.slots) (hdg : decode cc pc = .ok (.newarray .int, 2))
    (kk : ∀ (q : Nat) (H1 : Heap), va_P D vwCl (ws ++ [(q, .inl (cI, n, .inl (aI (fun _ => 0))))]) H1 → va_D A (ws ++ [(q, .inl (cI, n, .inl (aI (fun _ => 0))))]) → va_S A s.heap H1 locs →
      W p l e R s m args below meth c H1 locs (cells + 1) (slots + n) Q (F0 m (pc + 2) ls (.ref q :: rest))) : W p l e R s m args below meth c H locs cells slots Q (F0 m pc ls (.int (iI z) :: rest)) := by
  have hr : InR z := ⟨by omega, by omega⟩
  refine va_newa (atype := .int) hexec hb harr rfl hK.1 hP hD hS hA (N' := n) (a0 := (n, .inl (aI (fun _ => 0)))) (fun cA => rfl) (fun h => ?_) ?_ (by show n * 4 ≤ 536870912; omega) hcells hslots hdg (fun q cA H1 k1 k2 k3 k4 => ?_)
  · have := (iI_lt hr ⟨by omega, by omega⟩).mp (show iI z < iI 0 by rw [iI_0]; exact h)
    omega
  · rw [iI_clamp (by omega) (by omega)]; omega
  · have e1 : s.vm.findClass ("[" ++ (FieldType.int).toString) = some cI := (hK.1.2 0 (cI, .int) rfl).2
    have e2 : s.vm.findClass ("[" ++ (FieldType.int).toString) = some cA := (k1.2 2 (cA, .int) rfl).2
    have e3 : cA = cI := Option.some.inj (e2.symm.trans e1)
    subst e3
    exact kk q H1 k2 k3 k4
end MC
theorem gd_vaS {own : String} {idx : Nat} {y : MethodName} {cd : Cond} (h1 : Cond.methodLink own idx y ∈ GW) (h2 : Cond.static y ∈ GW) (h4 : Cond.initialized y.cls ∈ GW) (h5 : cd ∈ GW) : GoodIn GW (va_wsS own idx y (cd :: GW)) :=
  gw_good (gw_cons h1 (gw_cons h2 (gw_cons h4 (gw_cons h5 fun _ h => h))))
end
section
theorem updZ_to {f : Nat → Int} {i v : Int} (hf : ∀ k : Nat, (k : Int) < i → f k = v) (h0 : 0 ≤ i) : ∀ k : Nat, (k : Int) < i + 1 → updZ f i.toNat v k = v := by
  intro k hk
  rcases jlt h0 hk with g | g
  · rw [updZ_n (by omega)]
    exact hf k g
  · rw [g]
    exact updZ_s _ _ _
/-- a Spread's cells hold a search's state -/
def SpOK (S : BS) (g h : Nat → Int) (ct : Int) : Prop := LenOK S.2.1 g ∧ ct = (S.1.length : Int) ∧ S.1.length ≤ 9163 ∧ ∀ j : Nat, j < S.1.length → h j = bsAt S j
theorem bsAt_push {S : BS} {q f : Int} (hc : q ≠ -1 ∧ S.2.1 q = -1) : (∀ j : Nat, j < S.1.length → bsAt (bsR S q f) j = bsAt S j) ∧ bsAt (bsR S q f) S.1.length = q ∧ (bsR S q f).1.length = S.1.length + 1 := by
  have e : bsR S q f = (S.1 ++ [q], fun z => if z = q then S.2.1 f + 1 else S.2.1 z, fun z => if z = q then f else S.2.2 z) := if_pos hc
  refine ⟨fun j hj => ?_, ?_, by rw [e]; simp⟩
  · unfold bsAt
    rw [e]
    show (S.1 ++ [q]).getD j 0 = S.1.getD j 0
    rw [List.getD_eq_getElem?_getD, List.getD_eq_getElem?_getD, List.getElem?_append_left hj]
  · unfold bsAt
    rw [e]
    show (S.1 ++ [q]).getD S.1.length 0 = q
    rw [List.getD_eq_getElem?_getD, List.getElem?_append_right (Nat.le_refl _)]
    simp
theorem SpOK_R {S : BS} {g h : Nat → Int} {ct a f : Int} (hS : SpOK S g h ct) (hc : a ≠ -1 ∧ S.2.1 a = -1) (ha0 : 0 ≤ a) (ha : a < 16807) (hf : 0 ≤ S.2.1 f) (hf2 : S.2.1 f < 19999) (hl : (bsR S a f).1.length ≤ 9163) : SpOK (bsR S a f) (updZ g a.toNat (S.2.1 f + 1)) (updZ h ct.toNat a) (ct + 1) := by
  obtain ⟨⟨h1, h2, h3⟩, h4, h5, h6⟩ := hS
  obtain ⟨p1, p2, p3⟩ := bsAt_push (f := f) hc
  have hD : ∀ z, (bsR S a f).2.1 z = if z = a then S.2.1 f + 1 else S.2.1 z := fun z => by rw [show bsR S a f = (S.1 ++ [a], fun z => if z = a then S.2.1 f + 1 else S.2.1 z, fun z => if z = a then f else S.2.2 z) from if_pos hc]
  refine ⟨⟨fun k hk => ?_, fun z => ?_, fun z hz => ?_⟩, by rw [p3, h4]; omega, hl, fun j hj => ?_⟩
  · rw [hD]
    by_cases hka : (k : Int) = a
    · rw [if_pos hka, show k = a.toNat by omega, updZ_s]
    · rw [if_neg hka, updZ_n (by omega)]
      exact h1 k hk
  · rw [hD]
    have := h2 z
    split <;> omega
  · rw [hD, if_neg (by omega)]
    exact h3 z hz
  · by_cases hj2 : j < S.1.length
    · rw [p1 j hj2, updZ_n (by omega)]
      exact h6 j hj2
    · rw [show j = S.1.length by omega, p2, show ct.toNat = S.1.length by omega, updZ_s]
theorem SpOK_0 {s : Int} {g h : Nat → Int} (hs0 : 0 ≤ s) (hs : s < 16807) (hg : ∀ k : Nat, k < 16807 → g k = -1) : SpOK (bs0 s) (updZ g s.toNat 0) (updZ h 0 s) 1 := by
  refine ⟨⟨fun k hk => ?_, fun z => ?_, fun z hz => ?_⟩, rfl, by show (1 : Nat) ≤ 9163; omega, fun j hj => ?_⟩
  · show updZ g s.toNat 0 k = if (k : Int) = s then 0 else -1
    by_cases hks : (k : Int) = s
    · rw [if_pos hks, show k = s.toNat by omega, updZ_s]
    · rw [if_neg hks, updZ_n (by omega)]
      exact hg k hk
  · show -1 ≤ (if z = s then (0 : Int) else -1) ∧ (if z = s then (0 : Int) else -1) < 20000
    split <;> omega
  · show (if z = s then (0 : Int) else -1) = -1
    rw [if_neg (by omega)]
  · have hj : j < 1 := hj
    rw [show j = 0 by omega]
    exact updZ_s _ _ _
theorem bsR_b {S : BS} {q f : Int} (h : ∀ z, S.2.1 z < (S.1.length : Int)) : ∀ z, (bsR S q f).2.1 z < ((bsR S q f).1.length : Int) := by
  intro z
  by_cases hc : q ≠ -1 ∧ S.2.1 q = -1
  · have e : bsR S q f = (S.1 ++ [q], fun z => if z = q then S.2.1 f + 1 else S.2.1 z, fun z => if z = q then f else S.2.2 z) := if_pos hc
    rw [e]
    show (if z = q then S.2.1 f + 1 else S.2.1 z) < ((S.1 ++ [q]).length : Int)
    rw [List.length_append]
    have h1 := h f
    have h2 := h z
    split <;> simp <;> omega
  · rw [bsR_no hc]
    exact h z
/-- the search goes on as it was to -/
theorem bsG_s {nb : Int → Int → Int} {n i : Nat} {S X : BS} (h : bsG nb (n + 1) i S = X) (hl : i < S.1.length) : bsG nb n (i + 1) (bsK nb S (bsAt S i) 4) = X := by
  rw [← h]
  show _ = if i < S.1.length then bsG nb n (i + 1) (bsK nb S (bsAt S i) 4) else S
  rw [if_pos hl]
theorem bsG_e {nb : Int → Int → Int} {n i : Nat} {S X : BS} (h : bsG nb n i S = X) (hl : n = 0 ∨ ¬ i < S.1.length) : S = X := by
  cases n with
  | zero => exact h
  | succ n =>
    rw [← h]
    show S = if i < S.1.length then bsG nb n (i + 1) (bsK nb S (bsAt S i) 4) else S
    rw [if_neg (by omega)]
theorem bsF_s {nb : Int → Int → Int} {q : Int} {n i : Nat} {S : BS} {X : Int × BS} (h : bsF nb q (n + 1) i S = X) (hl : i < S.1.length) (hq : ¬ bsAt S i / 343 = q) : bsF nb q n (i + 1) (bsK nb S (bsAt S i) 4) = X := by
  rw [← h]
  show _ = if i < S.1.length then (if bsAt S i / 343 = q then (bsAt S i, S) else bsF nb q n (i + 1) (bsK nb S (bsAt S i) 4)) else (-1, S)
  rw [if_pos hl, if_neg hq]
theorem bsF_q {nb : Int → Int → Int} {q : Int} {n i : Nat} {S : BS} {X : Int × BS} (h : bsF nb q n i S = X) (hn : n ≠ 0) (hl : i < S.1.length) (hq : bsAt S i / 343 = q) : X = (bsAt S i, S) := by
  cases n with
  | zero => exact absurd rfl hn
  | succ n =>
    rw [← h]
    show (if i < S.1.length then (if bsAt S i / 343 = q then (bsAt S i, S) else bsF nb q n (i + 1) (bsK nb S (bsAt S i) 4)) else (-1, S)) = _
    rw [if_pos hl, if_pos hq]
theorem bsF_e {nb : Int → Int → Int} {q : Int} {n i : Nat} {S : BS} {X : Int × BS} (h : bsF nb q n i S = X) (hl : n = 0 ∨ ¬ i < S.1.length) : X = (-1, S) := by
  cases n with
  | zero => exact h.symm
  | succ n =>
    rw [← h]
    show (if i < S.1.length then (if bsAt S i / 343 = q then (bsAt S i, S) else bsF nb q n (i + 1) (bsK nb S (bsAt S i) 4)) else (-1, S)) = _
    rw [if_neg (by omega)]
theorem astZ_gd {C R np : Int} {N L : Int → Int} {gn : Nat → Int} (hF : FlOK C R np N gn) {lim z d : Int} (hz : GdZ C R N z) (hd0 : 0 ≤ d) (hd : d ≤ 3) (h : astZ C R N L lim z d ≠ -1) : GdZ C R N (astZ C R N L lim z d) := by
  unfold astZ at h ⊢
  split at h
  · rename_i hc
    rw [if_pos hc]
    exact (aftZ_back hF hz hd0 hd h).1
  · exact absurd rfl h
theorem astZ_b {C R np : Int} {N L : Int → Int} {gn : Nat → Int} (hF : FlOK C R np N gn) {lim z d : Int} (h0 : 0 ≤ z) (h1 : z < 16807) (h2 : z / 343 % 7 < R) : -1 ≤ astZ C R N L lim z d ∧ astZ C R N L lim z d < 16807 := by
  have := aftZ_b hF (d := d) h0 h1 h2
  unfold astZ
  split <;> omega
end
section
set_option maxRecDepth 100000 in
set_option maxHeartbeats 4000000 in
theorem c_J7_fill_53178 (l : Launch) (D : va_G) (cI cJ : ClassId) (fa fn : Nat) (fv : Int) (fg : Nat → Int) (hfn : fn < 1000000) (sz : Nat) : MMv l yJ7_fill_53178 (.code yJ7_fill_53178 cJ7_fill_53178 4 none) 0 0 0 [.ref fa, .int (iI fv)] D cI cJ [(fa, .inl (cI, fn, .inl (aI fg)))] sz (fun (u : (Nat → Int)) => ∀ k : Nat, k < fn → u k = fv) (fun u : (Nat → Int) => [(fa, .inl (cI, fn, .inl (aI u)))]) := by
  refine MM_of (Qc := fun A => QMv D A (fun (u : (Nat → Int)) => ∀ k : Nat, k < fn → u k = fv) (fun u : (Nat → Int) => [(fa, .inl (cI, fn, .inl (aI u)))])) (by decide) rfl (Nat.le_of_ble_eq_true rfl) (fun p e s m below meth c ls A hx hb hr hts hown hlk hml hin hK hP hD hA hS hl => ?_)
  have hl : lv_has ls 4 [(0, .ref fa), (1, .int (iI fv))] := hl
  refine zv_iconst hx hb dJ7_fill_53178_0 ?_
  refine lv_istore_n (lv' := [(2, .int (iI 0)), (0, .ref fa), (1, .int (iI fv))]) hx hb dJ7_fill_53178_1 rfl hl (by decide) rfl (fun ls hl => ?_)
  refine lv_aload_n hx hb dJ7_fill_53178_2 rfl (lv_at hl 1 rfl) ?_
  refine zv_alen hx hb hK.1 hP 0 0 rfl rfl dJ7_fill_53178_3 ?_
  refine lv_istore_n (lv' := [(3, .int (iI fn)), (2, .int (iI 0)), (0, .ref fa), (1, .int (iI fv))]) hx hb dJ7_fill_53178_4 rfl hl (by decide) rfl (fun ls hl => ?_)
  have loop5 : ∀ (nn : Nat) (i : Int) (f : Nat → Int), (0 ≤ i) → (i ≤ fn) → (∀ k : Nat, (k : Int) < i → f k = fv) → ((fn : Int) - i < (nn : Int)) → ∀ (H : Heap) (locs : List Loc), va_P D vwCl [(fa, .inl (cI, fn, .inl (aI f)))] H → va_D A [(fa, .inl (cI, fn, .inl (aI f)))] → va_S A s.heap H locs → ∀ ls : Array Slot, lv_has ls 4 [(0, .ref fa), (1, .int (iI fv)), (2, .int (iI i)), (3, .int (iI fn))] → W p l e (rmM 0 0 0) s m [.ref fa, .int (iI fv)].toArray below meth c H locs 0 0 (MQ below (QMv D A (fun (u : (Nat → Int)) => ∀ k : Nat, k < fn → u k = fv) (fun u : (Nat → Int) => [(fa, .inl (cI, fn, .inl (aI u)))])) [.ref fa, .int (iI fv)].toArray s 0 0 A) (F0 m 5 ls []) := by
    intro nn
    induction nn with
    | zero => intro i f hi0 hi1 hf hms; exfalso; omega
    | succ nn ih5 =>
      intro i f hi0 hi1 hf hms H locs hP hD hS ls hl
      refine lv_iload_n hx hb dJ7_fill_53178_5 rfl (lv_at hl 2 rfl) ?_
      refine lv_iload_n hx hb dJ7_fill_53178_6 rfl (lv_at hl 3 rfl) ?_
      refine zv_icmp_ge hx hb dJ7_fill_53178_7 (tgt := 20) (by decide) ⟨by omega, by omega⟩ ⟨by omega, by omega⟩ (fun c_1 => ?_) (fun c_1 => ?_)
      · exact MM_vret (f) hx hb hr hlk hP hD hS (Nat.le_of_ble_eq_true rfl) (Nat.le_of_ble_eq_true rfl) dJ7_fill_53178_20 (fun k hk => hf k (by omega))
      · refine lv_aload_n hx hb dJ7_fill_53178_10 rfl (lv_at hl 0 rfl) ?_
        refine lv_iload_n hx hb dJ7_fill_53178_11 rfl (lv_at hl 2 rfl) ?_
        refine lv_iload_n hx hb dJ7_fill_53178_12 rfl (lv_at hl 1 rfl) ?_
        refine zv_iast hx hb hK.1 hP hD hS 0 0 rfl rfl (by omega) (by omega) (by omega) (ws' := [(fa, .inl (cI, fn, .inl (aI (updZ f (i).toNat fv))))]) rfl dJ7_fill_53178_13 (fun H locs hP hD hS => ?_)
        refine zv_iinc (k := 2) (lv' := [(2, .int (iI (i + 1))), (0, .ref fa), (1, .int (iI fv)), (3, .int (iI fn))]) hx hb dJ7_fill_53178_14 hl rfl (by decide) rfl (fun ls hl => ?_)
        refine lv_goto (tgt := 5) hx hb dJ7_fill_53178_17 (by decide) ?_
        exact ih5 (i + 1) (updZ f (i).toNat fv) (by omega) (by omega) (updZ_to hf (by omega)) (by omega) _ _ hP hD hS ls (lv_sub hl [1, 2, 0, 3] rfl)
  exact loop5 (fn + 1) 0 fg (by omega) (by omega) (fun k hk => absurd hk (by omega)) (by omega) _ _ hP hD hS ls (lv_sub hl [2, 3, 1, 0] rfl)
set_option maxRecDepth 100000 in
set_option maxHeartbeats 4000000 in
theorem c_X1_add (l : Launch) (D : va_G) (cI cJ : ClassId) (sp da ra : Nat) (ct : Int) (g h : Nat → Int) (a x : Int) (ha1 : -1 ≤ a) (ha2 : a < 16807) (hc1 : 0 ≤ ct) (hc2 : a < 0 ∨ ct < 9163) (hc3 : ct ≤ 9163) (sz : Nat) : MMv l yX1_add (.code yX1_add cX1_add 3 none) 0 0 0 [.ref sp, .int (iI a), .int (iI x)] D cI cJ [(sp, .inr (1, [.ref da, .ref ra, .int (iI ct)])), (da, .inl (cI, 16807, .inl (aI g))), (ra, .inl (cI, 9163, .inl (aI h)))] sz (fun (u : (Nat → Int) × (Nat → Int) × Int) => (a < 0 ∧ u.1 = g ∧ u.2.1 = h ∧ u.2.2 = ct) ∨ (0 ≤ a ∧ u.1 = updZ g (a).toNat x ∧ u.2.1 = updZ h (ct).toNat a ∧ u.2.2 = ct + 1)) (fun u : (Nat → Int) × (Nat → Int) × Int => [(sp, .inr (1, [.ref da, .ref ra, .int (iI u.2.2)])), (da, .inl (cI, 16807, .inl (aI u.1))), (ra, .inl (cI, 9163, .inl (aI u.2.1)))]) := by
  refine MM_of (Qc := fun A => QMv D A (fun (u : (Nat → Int) × (Nat → Int) × Int) => (a < 0 ∧ u.1 = g ∧ u.2.1 = h ∧ u.2.2 = ct) ∨ (0 ≤ a ∧ u.1 = updZ g (a).toNat x ∧ u.2.1 = updZ h (ct).toNat a ∧ u.2.2 = ct + 1)) (fun u : (Nat → Int) × (Nat → Int) × Int => [(sp, .inr (1, [.ref da, .ref ra, .int (iI u.2.2)])), (da, .inl (cI, 16807, .inl (aI u.1))), (ra, .inl (cI, 9163, .inl (aI u.2.1)))])) (by decide) rfl (Nat.le_of_ble_eq_true rfl) (fun p e s m below meth c ls A hx hb hr hts hown hlk hml hin hK hP hD hA hS hl => ?_)
  have hl : lv_has ls 3 [(0, .ref sp), (1, .int (iI a)), (2, .int (iI x))] := hl
  refine lv_iload_n hx hb dX1_add_0 rfl (lv_at hl 1 rfl) ?_
  refine zv_if_lt hx hb dX1_add_1 (tgt := 59) (by decide) ⟨by omega, by omega⟩ (fun c_1 => ?_) (fun c_1 => ?_)
  · exact MM_vret (g, h, ct) hx hb hr hlk hP hD hS (Nat.le_of_ble_eq_true rfl) (Nat.le_of_ble_eq_true rfl) dX1_add_59 (by first | exact Or.inl ⟨by omega, rfl, rfl, rfl⟩ | exact Or.inr ⟨by omega, rfl, rfl, rfl⟩)
  · refine lv_iload_n hx hb dX1_add_4 rfl (lv_at hl 1 rfl) ?_
    refine lv_aload_n hx hb dX1_add_5 rfl (lv_at hl 0 rfl) ?_
    refine va_get (D := D) (ci := 1) (v := .ref da) (C := RX1) (T := TX1) (N := 3) hx hb hts uX1 hown hK.1 hP 0 rfl rfl 0 (by decide) (hts _ q_28) (fun _ h9 => h9) rfl dX1_add_6 ?_
    refine zv_alen hx hb hK.1 hP 1 0 rfl rfl dX1_add_9 ?_
    refine zv_icmp_ge hx hb dX1_add_10 (tgt := 59) (by decide) ⟨by omega, by omega⟩ ⟨by omega, by omega⟩ (fun c_2 => by exfalso; omega) (fun c_2 => ?_)
    refine lv_aload_n hx hb dX1_add_13 rfl (lv_at hl 0 rfl) ?_
    refine va_get (D := D) (ci := 1) (v := .int (iI ct)) (C := RX1) (T := TX1) (N := 3) hx hb hts uX1 hown hK.1 hP 0 rfl rfl 2 (by decide) (hts _ q_30) (fun _ h9 => h9) rfl dX1_add_14 ?_
    refine zv_if_lt hx hb dX1_add_17 (tgt := 59) (by decide) ⟨by omega, by omega⟩ (fun c_3 => by exfalso; omega) (fun c_3 => ?_)
    refine lv_aload_n hx hb dX1_add_20 rfl (lv_at hl 0 rfl) ?_
    refine va_get (D := D) (ci := 1) (v := .int (iI ct)) (C := RX1) (T := TX1) (N := 3) hx hb hts uX1 hown hK.1 hP 0 rfl rfl 2 (by decide) (hts _ q_30) (fun _ h9 => h9) rfl dX1_add_21 ?_
    refine lv_aload_n hx hb dX1_add_24 rfl (lv_at hl 0 rfl) ?_
    refine va_get (D := D) (ci := 1) (v := .ref ra) (C := RX1) (T := TX1) (N := 3) hx hb hts uX1 hown hK.1 hP 0 rfl rfl 1 (by decide) (hts _ q_29) (fun _ h9 => h9) rfl dX1_add_25 ?_
    refine zv_alen hx hb hK.1 hP 2 0 rfl rfl dX1_add_28 ?_
    refine zv_icmp_ge hx hb dX1_add_29 (tgt := 59) (by decide) ⟨by omega, by omega⟩ ⟨by omega, by omega⟩ (fun c_4 => by exfalso; omega) (fun c_4 => ?_)
    refine lv_aload_n hx hb dX1_add_32 rfl (lv_at hl 0 rfl) ?_
    refine va_get (D := D) (ci := 1) (v := .ref da) (C := RX1) (T := TX1) (N := 3) hx hb hts uX1 hown hK.1 hP 0 rfl rfl 0 (by decide) (hts _ q_28) (fun _ h9 => h9) rfl dX1_add_33 ?_
    refine lv_iload_n hx hb dX1_add_36 rfl (lv_at hl 1 rfl) ?_
    refine lv_iload_n hx hb dX1_add_37 rfl (lv_at hl 2 rfl) ?_
    refine zv_iast hx hb hK.1 hP hD hS 1 0 rfl rfl (by omega) (by omega) (by omega) (ws' := [(sp, .inr (1, [.ref da, .ref ra, .int (iI ct)])), (da, .inl (cI, 16807, .inl (aI (updZ g (a).toNat x)))), (ra, .inl (cI, 9163, .inl (aI h)))]) rfl dX1_add_38 (fun H locs hP hD hS => ?_)
    refine lv_aload_n hx hb dX1_add_39 rfl (lv_at hl 0 rfl) ?_
    refine va_get (D := D) (ci := 1) (v := .ref ra) (C := RX1) (T := TX1) (N := 3) hx hb hts uX1 hown hK.1 hP 0 rfl rfl 1 (by decide) (hts _ q_29) (fun _ h9 => h9) rfl dX1_add_40 ?_
    refine lv_aload_n hx hb dX1_add_43 rfl (lv_at hl 0 rfl) ?_
    refine va_get (D := D) (ci := 1) (v := .int (iI ct)) (C := RX1) (T := TX1) (N := 3) hx hb hts uX1 hown hK.1 hP 0 rfl rfl 2 (by decide) (hts _ q_30) (fun _ h9 => h9) rfl dX1_add_44 ?_
    refine lv_iload_n hx hb dX1_add_47 rfl (lv_at hl 1 rfl) ?_
    refine zv_iast hx hb hK.1 hP hD hS 2 0 rfl rfl (by omega) (by omega) (by omega) (ws' := [(sp, .inr (1, [.ref da, .ref ra, .int (iI ct)])), (da, .inl (cI, 16807, .inl (aI (updZ g (a).toNat x)))), (ra, .inl (cI, 9163, .inl (aI (updZ h (ct).toNat a))))]) rfl dX1_add_48 (fun H locs hP hD hS => ?_)
    refine lv_aload_n hx hb dX1_add_49 rfl (lv_at hl 0 rfl) ?_
    refine lv_dup hx hb dX1_add_50 rfl ?_
    refine va_get (D := D) (ci := 1) (v := .int (iI ct)) (C := RX1) (T := TX1) (N := 3) hx hb hts uX1 hown hK.1 hP 0 rfl rfl 2 (by decide) (hts _ q_30) (fun _ h9 => h9) rfl dX1_add_51 ?_
    refine zv_iconst hx hb dX1_add_54 ?_
    refine zv_iadd hx hb dX1_add_55 ?_
    refine va_put (D := D) (ci := 1) (v := .int (iI (ct + 1))) (ty := .int) (C := RX1) (T := TX1) (N := 3) hx hb hts uX1 tyX1 tyX1_ok nmX1 hown hK.1 hP hD hS 0 rfl rfl 2 (by decide) (hts _ q_30) (fun _ h9 => h9) rfl (by decide +kernel) rfl rfl (Nat.le_of_ble_eq_true rfl) dX1_add_56 (fun H locs hP hD hS => ?_)
    have hP : va_P D vwCl [(sp, .inr (1, [.ref da, .ref ra, .int (iI (ct + 1))])), (da, .inl (cI, 16807, .inl (aI (updZ g (a).toNat x)))), (ra, .inl (cI, 9163, .inl (aI (updZ h (ct).toNat a))))] H := hP
    have hD : va_D A [(sp, .inr (1, [.ref da, .ref ra, .int (iI (ct + 1))])), (da, .inl (cI, 16807, .inl (aI (updZ g (a).toNat x)))), (ra, .inl (cI, 9163, .inl (aI (updZ h (ct).toNat a))))] := hD
    exact MM_vret ((updZ g (a).toNat x), (updZ h (ct).toNat a), (ct + 1)) hx hb hr hlk hP hD hS (Nat.le_of_ble_eq_true rfl) (Nat.le_of_ble_eq_true rfl) dX1_add_59 (by first | exact Or.inl ⟨by omega, rfl, rfl, rfl⟩ | exact Or.inr ⟨by omega, rfl, rfl, rfl⟩)
set_option maxRecDepth 100000 in
set_option maxHeartbeats 4000000 in
theorem c_X1_reach (l : Launch) (D : va_G) (cI cJ : ClassId) (sp da ra : Nat) (ct : Int) (g h : Nat → Int) (a f : Int) (S : BS) (hsp : SpOK S g h ct) (ha1 : -1 ≤ a) (ha2 : a < 16807) (hf0 : 0 ≤ f) (hf1 : f < 16807) (hfD : 0 ≤ S.2.1 f) (hfE : S.2.1 f < 19999) (hln : (bsR S a f).1.length ≤ 9163) (sz : Nat) : MMv l yX1_reach (.code yX1_reach cX1_reach 3 none) 1 0 0 [.ref sp, .int (iI a), .int (iI f)] D cI cJ [(sp, .inr (1, [.ref da, .ref ra, .int (iI ct)])), (da, .inl (cI, 16807, .inl (aI g))), (ra, .inl (cI, 9163, .inl (aI h)))] sz (fun (u : (Nat → Int) × (Nat → Int) × Int) => SpOK (bsR S a f) u.1 u.2.1 u.2.2) (fun u : (Nat → Int) × (Nat → Int) × Int => [(sp, .inr (1, [.ref da, .ref ra, .int (iI u.2.2)])), (da, .inl (cI, 16807, .inl (aI u.1))), (ra, .inl (cI, 9163, .inl (aI u.2.1)))]) := by
  have hL := hsp.1
  have hLa := hL.b a
  obtain ⟨-, hct, hln0, -⟩ := id hsp
  refine MM_of (Qc := fun A => QMv D A (fun (u : (Nat → Int) × (Nat → Int) × Int) => SpOK (bsR S a f) u.1 u.2.1 u.2.2) (fun u : (Nat → Int) × (Nat → Int) × Int => [(sp, .inr (1, [.ref da, .ref ra, .int (iI u.2.2)])), (da, .inl (cI, 16807, .inl (aI u.1))), (ra, .inl (cI, 9163, .inl (aI u.2.1)))])) (by decide) rfl (Nat.le_of_ble_eq_true rfl) (fun p e s m below meth c ls A hx hb hr hts hown hlk hml hin hK hP hD hA hS hl => ?_)
  have hl : lv_has ls 3 [(0, .ref sp), (1, .int (iI a)), (2, .int (iI f))] := hl
  refine lv_aload_n hx hb dX1_reach_0 rfl (lv_at hl 0 rfl) ?_
  refine lv_iload_n hx hb dX1_reach_1 rfl (lv_at hl 1 rfl) ?_
  refine zc_V (As := [.int (iI a)]) (rest := []) (ws := [(sp, .inr (1, [.ref da, .ref ra, .int (iI ct)])), (da, .inl (cI, 16807, .inl (aI g))), (ra, .inl (cI, 9163, .inl (aI h)))]) (n := 1) hx hb (hml.trans hl.1.symm) hts hown hK hP (c_X1_distanceOf l D cI cJ sp da ra ct g S.2.1 a hL (by omega) (by omega)) (gd_V q_153 q_154 q_155 q_2 q_156) (by decide +kernel) rfl ⟨Nat.le_of_ble_eq_true rfl, Nat.le_of_ble_eq_true rfl⟩ ⟨Nat.le_of_ble_eq_true rfl, Nat.le_of_ble_eq_true rfl⟩ [0, 1] rfl 0 (ci := 1) rfl rfl rfl rfl (Nat.le_of_ble_eq_true rfl) dX1_reach_2 (fun r_1 hr_1 => ?_)
  subst r_1
  refine zv_iconst hx hb dX1_reach_5 ?_
  refine zv_icmp_ne hx hb dX1_reach_6 (tgt := 21) (by decide) ⟨by omega, by omega⟩ ⟨by omega, by omega⟩ (fun c_2 => ?_) (fun c_2 => ?_)
  · exact MM_vret (g, h, ct) hx hb hr hlk hP hD hS (Nat.le_of_ble_eq_true rfl) (Nat.le_of_ble_eq_true rfl) dX1_reach_21 (by rw [bsR_no (by omega)]; exact hsp)
  · have hcl : a < 0 ∨ ct < 9163 := by
      by_cases h9 : a < 0
      · exact Or.inl h9
      · have := (bsAt_push (S := S) (q := a) (f := f) ⟨by omega, by assumption⟩).2.2
        right; omega
    refine lv_aload_n hx hb dX1_reach_9 rfl (lv_at hl 0 rfl) ?_
    refine lv_iload_n hx hb dX1_reach_10 rfl (lv_at hl 1 rfl) ?_
    refine lv_aload_n hx hb dX1_reach_11 rfl (lv_at hl 0 rfl) ?_
    refine lv_iload_n hx hb dX1_reach_12 rfl (lv_at hl 2 rfl) ?_
    refine zc_V (As := [.int (iI f)]) (rest := [.int (iI a), .ref sp]) (ws := [(sp, .inr (1, [.ref da, .ref ra, .int (iI ct)])), (da, .inl (cI, 16807, .inl (aI g))), (ra, .inl (cI, 9163, .inl (aI h)))]) (n := 1) hx hb (hml.trans hl.1.symm) hts hown hK hP (c_X1_distanceOf l D cI cJ sp da ra ct g S.2.1 f hL (by omega) (by omega)) (gd_V q_153 q_154 q_155 q_2 q_156) (by decide +kernel) rfl ⟨Nat.le_of_ble_eq_true rfl, Nat.le_of_ble_eq_true rfl⟩ ⟨Nat.le_of_ble_eq_true rfl, Nat.le_of_ble_eq_true rfl⟩ [0, 1] rfl 0 (ci := 1) rfl rfl rfl rfl (Nat.le_of_ble_eq_true rfl) dX1_reach_13 (fun r_3 hr_3 => ?_)
    subst r_3
    refine zv_iconst hx hb dX1_reach_16 ?_
    refine zv_iadd hx hb dX1_reach_17 ?_
    refine zm_Vv (As := [.int (iI a), .int (iI (S.2.1 f + 1))]) (rest := []) (ws := [(sp, .inr (1, [.ref da, .ref ra, .int (iI ct)])), (da, .inl (cI, 16807, .inl (aI g))), (ra, .inl (cI, 9163, .inl (aI h)))]) (wr := []) (n := 2) hx hb (hml.trans hl.1.symm) hts hown hK hP hD hS hA (c_X1_add l D cI cJ sp da ra ct g h a (S.2.1 f + 1) (by omega) (by omega) (by omega) (by omega) (by omega) _) (gd_V q_85 q_87 q_1001 q_2 q_88) (by decide +kernel) rfl ⟨Nat.le_of_ble_eq_true rfl, Nat.le_of_ble_eq_true rfl⟩ ⟨Nat.le_of_ble_eq_true rfl, Nat.le_of_ble_eq_true rfl⟩ [0, 1, 2] [] rfl rfl (by decide) (by decide) (by decide) 0 (ci := 1) rfl rfl rfl rfl (Nat.le_of_ble_eq_true rfl) dX1_reach_18 (fun u H locs hq_4 hP hD hS => ?_)
    obtain ⟨g9, h9, c9⟩ := u
    have hP := hP.sub (ws' := [(sp, .inr (1, [.ref da, .ref ra, .int (iI c9)])), (da, .inl (cI, 16807, .inl (aI g9))), (ra, .inl (cI, 9163, .inl (aI h9)))]) [0, 1, 2] rfl
    have hD := hD.sub (ws' := [(sp, .inr (1, [.ref da, .ref ra, .int (iI c9)])), (da, .inl (cI, 16807, .inl (aI g9))), (ra, .inl (cI, 9163, .inl (aI h9)))]) [0, 1, 2] (by decide) rfl
    try dsimp only at hq_4
    have hadd := hq_4
    exact MM_vret (g9, h9, c9) hx hb hr hlk hP hD hS (Nat.le_of_ble_eq_true rfl) (Nat.le_of_ble_eq_true rfl) dX1_reach_21 (by rcases hadd with ⟨q1, rfl, rfl, rfl⟩ | ⟨q1, rfl, rfl, rfl⟩ <;> first | (rw [bsR_no (by omega)]; exact hsp) | exact SpOK_R hsp ⟨by omega, by assumption⟩ (by omega) (by omega) hfD hfE hln)
set_option maxRecDepth 100000 in
set_option maxHeartbeats 4000000 in
theorem c_X1_begin (l : Launch) (D : va_G) (cI cJ : ClassId) (sp da ra : Nat) (ct : Int) (g h : Nat → Int) (a : Int) (ha0 : 0 ≤ a) (ha1 : a < 16807) (sz : Nat) : MMv l yX1_begin (.code yX1_begin cX1_begin 2 none) 1 0 0 [.ref sp, .int (iI a)] D cI cJ [(sp, .inr (1, [.ref da, .ref ra, .int (iI ct)])), (da, .inl (cI, 16807, .inl (aI g))), (ra, .inl (cI, 9163, .inl (aI h)))] sz (fun (u : (Nat → Int) × (Nat → Int) × Int) => SpOK (bs0 a) u.1 u.2.1 u.2.2) (fun u : (Nat → Int) × (Nat → Int) × Int => [(sp, .inr (1, [.ref da, .ref ra, .int (iI u.2.2)])), (da, .inl (cI, 16807, .inl (aI u.1))), (ra, .inl (cI, 9163, .inl (aI u.2.1)))]) := by
  refine MM_of (Qc := fun A => QMv D A (fun (u : (Nat → Int) × (Nat → Int) × Int) => SpOK (bs0 a) u.1 u.2.1 u.2.2) (fun u : (Nat → Int) × (Nat → Int) × Int => [(sp, .inr (1, [.ref da, .ref ra, .int (iI u.2.2)])), (da, .inl (cI, 16807, .inl (aI u.1))), (ra, .inl (cI, 9163, .inl (aI u.2.1)))])) (by decide) rfl (Nat.le_of_ble_eq_true rfl) (fun p e s m below meth c ls A hx hb hr hts hown hlk hml hin hK hP hD hA hS hl => ?_)
  have hl : lv_has ls 2 [(0, .ref sp), (1, .int (iI a))] := hl
  refine lv_aload_n hx hb dX1_begin_0 rfl (lv_at hl 0 rfl) ?_
  refine va_get (D := D) (ci := 1) (v := .ref da) (C := RX1) (T := TX1) (N := 3) hx hb hts uX1 hown hK.1 hP 0 rfl rfl 0 (by decide) (hts _ q_28) (fun _ h9 => h9) rfl dX1_begin_1 ?_
  refine zv_iconst hx hb dX1_begin_4 ?_
  refine zm_Sv (As := [.ref da, .int (iI (-1))]) (rest := []) (ws := [(sp, .inr (1, [.ref da, .ref ra, .int (iI ct)])), (da, .inl (cI, 16807, .inl (aI g))), (ra, .inl (cI, 9163, .inl (aI h)))]) (wr := [(sp, .inr (1, [.ref da, .ref ra, .int (iI ct)])), (ra, .inl (cI, 9163, .inl (aI h)))]) (n := 2) hx hb (hml.trans hl.1.symm) hts hown hK hP hD hS hA (c_J7_fill_53178 l D cI cJ da 16807 (-1) g (Nat.le_of_ble_eq_true rfl) _) (gd_vaS q_84 q_55 q_5 q_56) (by decide +kernel) rfl ⟨Nat.le_of_ble_eq_true rfl, Nat.le_of_ble_eq_true rfl⟩ ⟨Nat.le_of_ble_eq_true rfl, Nat.le_of_ble_eq_true rfl⟩ [1] [0, 2] rfl rfl (by decide) (by decide) (by decide) rfl (Nat.le_of_ble_eq_true rfl) dX1_begin_5 (fun u H locs hq_1 hP hD hS => ?_)
  obtain ⟨g8, rfl⟩ : ∃ z, z = u := ⟨_, rfl⟩
  have hP := hP.sub (ws' := [(sp, .inr (1, [.ref da, .ref ra, .int (iI ct)])), (da, .inl (cI, 16807, .inl (aI g8))), (ra, .inl (cI, 9163, .inl (aI h)))]) [0, 2, 1] rfl
  have hD := hD.sub (ws' := [(sp, .inr (1, [.ref da, .ref ra, .int (iI ct)])), (da, .inl (cI, 16807, .inl (aI g8))), (ra, .inl (cI, 9163, .inl (aI h)))]) [0, 2, 1] (by decide) rfl
  try dsimp only at hq_1
  have hfill := hq_1
  refine lv_aload_n hx hb dX1_begin_8 rfl (lv_at hl 0 rfl) ?_
  refine zv_iconst hx hb dX1_begin_9 ?_
  refine va_put (D := D) (ci := 1) (v := .int (iI 0)) (ty := .int) (C := RX1) (T := TX1) (N := 3) hx hb hts uX1 tyX1 tyX1_ok nmX1 hown hK.1 hP hD hS 0 rfl rfl 2 (by decide) (hts _ q_30) (fun _ h9 => h9) rfl (by decide +kernel) rfl rfl (Nat.le_of_ble_eq_true rfl) dX1_begin_10 (fun H locs hP hD hS => ?_)
  have hP : va_P D vwCl [(sp, .inr (1, [.ref da, .ref ra, .int (iI 0)])), (da, .inl (cI, 16807, .inl (aI g8))), (ra, .inl (cI, 9163, .inl (aI h)))] H := hP
  have hD : va_D A [(sp, .inr (1, [.ref da, .ref ra, .int (iI 0)])), (da, .inl (cI, 16807, .inl (aI g8))), (ra, .inl (cI, 9163, .inl (aI h)))] := hD
  refine lv_aload_n hx hb dX1_begin_13 rfl (lv_at hl 0 rfl) ?_
  refine lv_iload_n hx hb dX1_begin_14 rfl (lv_at hl 1 rfl) ?_
  refine zv_iconst hx hb dX1_begin_15 ?_
  refine zm_Vv (As := [.int (iI a), .int (iI 0)]) (rest := []) (ws := [(sp, .inr (1, [.ref da, .ref ra, .int (iI 0)])), (da, .inl (cI, 16807, .inl (aI g8))), (ra, .inl (cI, 9163, .inl (aI h)))]) (wr := []) (n := 2) hx hb (hml.trans hl.1.symm) hts hown hK hP hD hS hA (c_X1_add l D cI cJ sp da ra 0 g8 h a 0 (by omega) (by omega) (by omega) (by omega) (by omega) _) (gd_V q_85 q_87 q_1001 q_2 q_88) (by decide +kernel) rfl ⟨Nat.le_of_ble_eq_true rfl, Nat.le_of_ble_eq_true rfl⟩ ⟨Nat.le_of_ble_eq_true rfl, Nat.le_of_ble_eq_true rfl⟩ [0, 1, 2] [] rfl rfl (by decide) (by decide) (by decide) 0 (ci := 1) rfl rfl rfl rfl (Nat.le_of_ble_eq_true rfl) dX1_begin_16 (fun u H locs hq_3 hP hD hS => ?_)
  obtain ⟨g9, h9, c9⟩ := u
  have hP := hP.sub (ws' := [(sp, .inr (1, [.ref da, .ref ra, .int (iI c9)])), (da, .inl (cI, 16807, .inl (aI g9))), (ra, .inl (cI, 9163, .inl (aI h9)))]) [0, 1, 2] rfl
  have hD := hD.sub (ws' := [(sp, .inr (1, [.ref da, .ref ra, .int (iI c9)])), (da, .inl (cI, 16807, .inl (aI g9))), (ra, .inl (cI, 9163, .inl (aI h9)))]) [0, 1, 2] (by decide) rfl
  try dsimp only at hq_3
  have hadd := hq_3
  exact MM_vret (g9, h9, c9) hx hb hr hlk hP hD hS (Nat.le_of_ble_eq_true rfl) (Nat.le_of_ble_eq_true rfl) dX1_begin_19 (by rcases hadd with ⟨q1, -⟩ | ⟨-, rfl, rfl, rfl⟩ <;> first | (exfalso; omega) | exact SpOK_0 ha0 ha1 hfill)
set_option maxRecDepth 100000 in
set_option maxHeartbeats 4000000 in
theorem c_X2_measureLengths (l : Launch) (D : va_G) (cI cJ : ClassId) (tt fl s1 s2 pn d1 r1 : Nat) (lim bs P sm C R np c1 : Int) (gn g1 h1 : Nat → Int) (N : Int → Int) (hF : FlOK C R np N gn) (hbs : GdZ C R N (bs * 343)) (sz : Nat) : MMv l yX2_measureLengths (.code yX2_measureLengths cX2_measureLengths 4 none) 5 0 0 [.ref tt] D cI cJ [(tt, .inr (2, [.ref fl, .int (iI lim), .ref s1, .ref s2, .int (iI bs), .int (iI P), .int (iI sm)])), (fl, .inr (0, [.int (iI C), .int (iI R), .ref pn, .int (iI np)])), (pn, .inl (cI, 49, .inl (aI gn))), (s1, .inr (1, [.ref d1, .ref r1, .int (iI c1)])), (d1, .inl (cI, 16807, .inl (aI g1))), (r1, .inl (cI, 9163, .inl (aI h1)))] sz (fun (u : (Nat → Int) × (Nat → Int) × Int) => SpOK (BF (aftZ C R N) (bs * 343)) u.1 u.2.1 u.2.2) (fun u : (Nat → Int) × (Nat → Int) × Int => [(tt, .inr (2, [.ref fl, .int (iI lim), .ref s1, .ref s2, .int (iI bs), .int (iI P), .int (iI sm)])), (fl, .inr (0, [.int (iI C), .int (iI R), .ref pn, .int (iI np)])), (pn, .inl (cI, 49, .inl (aI gn))), (s1, .inr (1, [.ref d1, .ref r1, .int (iI u.2.2)])), (d1, .inl (cI, 16807, .inl (aI u.1))), (r1, .inl (cI, 9163, .inl (aI u.2.1)))]) := by
  obtain ⟨hC1, hC2, hR1, hR2, hp1, hp2, -, -⟩ := id hF
  obtain ⟨hb0, hb1, -, -, -, -⟩ := id hbs
  have hgd : ∀ z d : Int, 0 ≤ d → d ≤ 3 → GdZ C R N z → aftZ C R N z d ≠ -1 → GdZ C R N (aftZ C R N z d) := fun z d k1 k2 k3 k4 => (aftZ_back hF k3 k1 k2 k4).1
  refine MM_of (Qc := fun A => QMv D A (fun (u : (Nat → Int) × (Nat → Int) × Int) => SpOK (BF (aftZ C R N) (bs * 343)) u.1 u.2.1 u.2.2) (fun u : (Nat → Int) × (Nat → Int) × Int => [(tt, .inr (2, [.ref fl, .int (iI lim), .ref s1, .ref s2, .int (iI bs), .int (iI P), .int (iI sm)])), (fl, .inr (0, [.int (iI C), .int (iI R), .ref pn, .int (iI np)])), (pn, .inl (cI, 49, .inl (aI gn))), (s1, .inr (1, [.ref d1, .ref r1, .int (iI u.2.2)])), (d1, .inl (cI, 16807, .inl (aI u.1))), (r1, .inl (cI, 9163, .inl (aI u.2.1)))])) (by decide) rfl (Nat.le_of_ble_eq_true rfl) (fun p e s m below meth c ls A hx hb hr hts hown hlk hml hin hK hP hD hA hS hl => ?_)
  have hl : lv_has ls 4 [(0, .ref tt)] := hl
  refine lv_aload_n hx hb dX2_measureLengths_0 rfl (lv_at hl 0 rfl) ?_
  refine va_get (D := D) (ci := 2) (v := .ref s1) (C := RX2) (T := TX2) (N := 7) hx hb hts uX2 hown hK.1 hP 0 rfl rfl 2 (by decide) (hts _ q_159) (fun _ h9 => h9) rfl dX2_measureLengths_1 ?_
  refine lv_aload_n hx hb dX2_measureLengths_4 rfl (lv_at hl 0 rfl) ?_
  refine va_get (D := D) (ci := 2) (v := .int (iI bs)) (C := RX2) (T := TX2) (N := 7) hx hb hts uX2 hown hK.1 hP 0 rfl rfl 4 (by decide) (hts _ q_161) (fun _ h9 => h9) rfl dX2_measureLengths_5 ?_
  refine zv_iconst hx hb dX2_measureLengths_8 ?_
  refine zc_S (As := [.int (iI bs), .int (iI 0)]) (rest := [.ref s1]) (ws := [(tt, .inr (2, [.ref fl, .int (iI lim), .ref s1, .ref s2, .int (iI bs), .int (iI P), .int (iI sm)])), (fl, .inr (0, [.int (iI C), .int (iI R), .ref pn, .int (iI np)])), (pn, .inl (cI, 49, .inl (aI gn))), (s1, .inr (1, [.ref d1, .ref r1, .int (iI c1)])), (d1, .inl (cI, 16807, .inl (aI g1))), (r1, .inl (cI, 9163, .inl (aI h1)))]) (n := 2) hx hb (hml.trans hl.1.symm) hts hown hK hP (c_X2_placeOf l D cI cJ bs 0) (gd_S q_73 q_74 q_1 q_75) (by decide +kernel) rfl ⟨Nat.le_of_ble_eq_true rfl, Nat.le_of_ble_eq_true rfl⟩ ⟨Nat.le_of_ble_eq_true rfl, Nat.le_of_ble_eq_true rfl⟩ [] rfl rfl (Nat.le_of_ble_eq_true rfl) dX2_measureLengths_9 (fun r_1 hr_1 => ?_)
  subst r_1
  refine zm_Vv (As := [.int (iI (bs * 343 + 0))]) (rest := []) (ws := [(tt, .inr (2, [.ref fl, .int (iI lim), .ref s1, .ref s2, .int (iI bs), .int (iI P), .int (iI sm)])), (fl, .inr (0, [.int (iI C), .int (iI R), .ref pn, .int (iI np)])), (pn, .inl (cI, 49, .inl (aI gn))), (s1, .inr (1, [.ref d1, .ref r1, .int (iI c1)])), (d1, .inl (cI, 16807, .inl (aI g1))), (r1, .inl (cI, 9163, .inl (aI h1)))]) (wr := [(tt, .inr (2, [.ref fl, .int (iI lim), .ref s1, .ref s2, .int (iI bs), .int (iI P), .int (iI sm)])), (fl, .inr (0, [.int (iI C), .int (iI R), .ref pn, .int (iI np)])), (pn, .inl (cI, 49, .inl (aI gn)))]) (n := 1) hx hb (hml.trans hl.1.symm) hts hown hK hP hD hS hA (c_X1_begin l D cI cJ s1 d1 r1 c1 g1 h1 (bs * 343 + 0) (by omega) (by omega) _) (gd_V q_80 q_81 q_82 q_2 q_83) (by decide +kernel) rfl ⟨Nat.le_of_ble_eq_true rfl, Nat.le_of_ble_eq_true rfl⟩ ⟨Nat.le_of_ble_eq_true rfl, Nat.le_of_ble_eq_true rfl⟩ [3, 4, 5] [0, 1, 2] rfl rfl (by decide) (by decide) (by decide) 3 (ci := 1) rfl rfl rfl rfl (Nat.le_of_ble_eq_true rfl) dX2_measureLengths_12 (fun u H locs hq_2 hP hD hS => ?_)
  obtain ⟨g0, h0, c0⟩ := u
  have hP := hP.sub (ws' := [(tt, .inr (2, [.ref fl, .int (iI lim), .ref s1, .ref s2, .int (iI bs), .int (iI P), .int (iI sm)])), (fl, .inr (0, [.int (iI C), .int (iI R), .ref pn, .int (iI np)])), (pn, .inl (cI, 49, .inl (aI gn))), (s1, .inr (1, [.ref d1, .ref r1, .int (iI c0)])), (d1, .inl (cI, 16807, .inl (aI g0))), (r1, .inl (cI, 9163, .inl (aI h0)))]) [0, 1, 2, 3, 4, 5] rfl
  have hD := hD.sub (ws' := [(tt, .inr (2, [.ref fl, .int (iI lim), .ref s1, .ref s2, .int (iI bs), .int (iI P), .int (iI sm)])), (fl, .inr (0, [.int (iI C), .int (iI R), .ref pn, .int (iI np)])), (pn, .inl (cI, 49, .inl (aI gn))), (s1, .inr (1, [.ref d1, .ref r1, .int (iI c0)])), (d1, .inl (cI, 16807, .inl (aI g0))), (r1, .inl (cI, 9163, .inl (aI h0)))]) [0, 1, 2, 3, 4, 5] (by decide) rfl
  try dsimp only at hq_2
  have hbg : SpOK (bs0 (bs * 343)) g0 h0 c0 := by rw [show bs * 343 + 0 = bs * 343 by omega] at hq_2; exact hq_2
  refine zv_iconst hx hb dX2_measureLengths_15 ?_
  refine lv_istore_n (lv' := [(1, .int (iI 0)), (0, .ref tt)]) hx hb dX2_measureLengths_16 rfl hl (by decide) rfl (fun ls hl => ?_)
  have loop17 : ∀ (nn : Nat) (i : Int) (S : BS) (g : Nat → Int) (h : Nat → Int) (ct : Int), (0 ≤ i) → (i ≤ 16807) → (bsG (aftZ C R N) (16807 - i.toNat) i.toNat S = BF (aftZ C R N) (bs * 343)) → (BI (aftZ C R N) (bs * 343) (GdZ C R N) S i.toNat 0) → (SpOK S g h ct) → (∀ z, S.2.1 z < (S.1.length : Int)) → (16807 - i < (nn : Int)) → ∀ (H : Heap) (locs : List Loc), va_P D vwCl [(tt, .inr (2, [.ref fl, .int (iI lim), .ref s1, .ref s2, .int (iI bs), .int (iI P), .int (iI sm)])), (fl, .inr (0, [.int (iI C), .int (iI R), .ref pn, .int (iI np)])), (pn, .inl (cI, 49, .inl (aI gn))), (s1, .inr (1, [.ref d1, .ref r1, .int (iI ct)])), (d1, .inl (cI, 16807, .inl (aI g))), (r1, .inl (cI, 9163, .inl (aI h)))] H → va_D A [(tt, .inr (2, [.ref fl, .int (iI lim), .ref s1, .ref s2, .int (iI bs), .int (iI P), .int (iI sm)])), (fl, .inr (0, [.int (iI C), .int (iI R), .ref pn, .int (iI np)])), (pn, .inl (cI, 49, .inl (aI gn))), (s1, .inr (1, [.ref d1, .ref r1, .int (iI ct)])), (d1, .inl (cI, 16807, .inl (aI g))), (r1, .inl (cI, 9163, .inl (aI h)))] → va_S A s.heap H locs → ∀ ls : Array Slot, lv_has ls 4 [(0, .ref tt), (1, .int (iI i))] → W p l e (rmM 5 0 0) s m [.ref tt].toArray below meth c H locs 0 0 (MQ below (QMv D A (fun (u : (Nat → Int) × (Nat → Int) × Int) => SpOK (BF (aftZ C R N) (bs * 343)) u.1 u.2.1 u.2.2) (fun u : (Nat → Int) × (Nat → Int) × Int => [(tt, .inr (2, [.ref fl, .int (iI lim), .ref s1, .ref s2, .int (iI bs), .int (iI P), .int (iI sm)])), (fl, .inr (0, [.int (iI C), .int (iI R), .ref pn, .int (iI np)])), (pn, .inl (cI, 49, .inl (aI gn))), (s1, .inr (1, [.ref d1, .ref r1, .int (iI u.2.2)])), (d1, .inl (cI, 16807, .inl (aI u.1))), (r1, .inl (cI, 9163, .inl (aI u.2.1)))])) [.ref tt].toArray s 0 0 A) (F0 m 17 ls []) := by
    intro nn
    induction nn with
    | zero => intro i S g h ct hi0 hi1 hG hBI hsp hbd hms; exfalso; omega
    | succ nn ih17 =>
      intro i S g h ct hi0 hi1 hG hBI hsp hbd hms H locs hP hD hS ls hl
      obtain ⟨hLn, hct, hln, hat⟩ := id hsp
      refine lv_iload_n hx hb dX2_measureLengths_17 rfl (lv_at hl 1 rfl) ?_
      refine zv_sipush hx hb dX2_measureLengths_18 (by decide) ?_
      refine zv_icmp_ge hx hb dX2_measureLengths_21 (tgt := 80) (by decide) ⟨by omega, by omega⟩ ⟨by omega, by omega⟩ (fun c_4 => ?_) (fun c_4 => ?_)
      · exact MM_vret (g, h, ct) hx hb hr hlk hP hD hS (Nat.le_of_ble_eq_true rfl) (Nat.le_of_ble_eq_true rfl) dX2_measureLengths_80 (by rw [← bsG_e hG (by omega)]; exact hsp)
      · refine lv_iload_n hx hb dX2_measureLengths_24 rfl (lv_at hl 1 rfl) ?_
        refine lv_aload_n hx hb dX2_measureLengths_25 rfl (lv_at hl 0 rfl) ?_
        refine va_get (D := D) (ci := 2) (v := .ref s1) (C := RX2) (T := TX2) (N := 7) hx hb hts uX2 hown hK.1 hP 0 rfl rfl 2 (by decide) (hts _ q_159) (fun _ h9 => h9) rfl dX2_measureLengths_26 ?_
        refine zc_V (As := []) (rest := [.int (iI i)]) (ws := [(tt, .inr (2, [.ref fl, .int (iI lim), .ref s1, .ref s2, .int (iI bs), .int (iI P), .int (iI sm)])), (fl, .inr (0, [.int (iI C), .int (iI R), .ref pn, .int (iI np)])), (pn, .inl (cI, 49, .inl (aI gn))), (s1, .inr (1, [.ref d1, .ref r1, .int (iI ct)])), (d1, .inl (cI, 16807, .inl (aI g))), (r1, .inl (cI, 9163, .inl (aI h)))]) (n := 0) hx hb (hml.trans hl.1.symm) hts hown hK hP (c_X1_count l D cI cJ s1 d1 r1 ct) (gd_V q_89 q_90 q_91 q_2 q_92) (by decide +kernel) rfl ⟨Nat.le_of_ble_eq_true rfl, Nat.le_of_ble_eq_true rfl⟩ ⟨Nat.le_of_ble_eq_true rfl, Nat.le_of_ble_eq_true rfl⟩ [3] rfl 3 (ci := 1) rfl rfl rfl rfl (Nat.le_of_ble_eq_true rfl) dX2_measureLengths_29 (fun r_5 hr_5 => ?_)
        subst r_5
        refine zv_icmp_ge hx hb dX2_measureLengths_32 (tgt := 80) (by decide) ⟨by omega, by omega⟩ ⟨by omega, by omega⟩ (fun c_6 => ?_) (fun c_6 => ?_)
        · exact MM_vret (g, h, ct) hx hb hr hlk hP hD hS (Nat.le_of_ble_eq_true rfl) (Nat.le_of_ble_eq_true rfl) dX2_measureLengths_80 (by rw [← bsG_e hG (by omega)]; exact hsp)
        · have hil : i.toNat < S.1.length := by omega
          have hpt := hat i.toNat hil
          have hgf := hBI.2.2.2.1 _ (List.mem_of_getElem? (bsAt_some hil))
          obtain ⟨hf0, hf1, hf2⟩ := hgf.pl
          refine lv_aload_n hx hb dX2_measureLengths_35 rfl (lv_at hl 0 rfl) ?_
          refine va_get (D := D) (ci := 2) (v := .ref s1) (C := RX2) (T := TX2) (N := 7) hx hb hts uX2 hown hK.1 hP 0 rfl rfl 2 (by decide) (hts _ q_159) (fun _ h9 => h9) rfl dX2_measureLengths_36 ?_
          refine lv_iload_n hx hb dX2_measureLengths_39 rfl (lv_at hl 1 rfl) ?_
          refine zc_V (As := [.int (iI i)]) (rest := []) (ws := [(tt, .inr (2, [.ref fl, .int (iI lim), .ref s1, .ref s2, .int (iI bs), .int (iI P), .int (iI sm)])), (fl, .inr (0, [.int (iI C), .int (iI R), .ref pn, .int (iI np)])), (pn, .inl (cI, 49, .inl (aI gn))), (s1, .inr (1, [.ref d1, .ref r1, .int (iI ct)])), (d1, .inl (cI, 16807, .inl (aI g))), (r1, .inl (cI, 9163, .inl (aI h)))]) (n := 1) hx hb (hml.trans hl.1.symm) hts hown hK hP (c_X1_placeAt l D cI cJ s1 d1 r1 ct h i (by omega) (by omega) (by omega) (by omega)) (gd_V q_93 q_94 q_95 q_2 q_96) (by decide +kernel) rfl ⟨Nat.le_of_ble_eq_true rfl, Nat.le_of_ble_eq_true rfl⟩ ⟨Nat.le_of_ble_eq_true rfl, Nat.le_of_ble_eq_true rfl⟩ [3, 5] rfl 3 (ci := 1) rfl rfl rfl rfl (Nat.le_of_ble_eq_true rfl) dX2_measureLengths_40 (fun r_7 hr_7 => ?_)
          subst r_7
          refine zv_top (y := (bsAt S i.toNat)) (hpt) ?_
          refine lv_istore_n (lv' := [(2, .int (iI (bsAt S i.toNat))), (0, .ref tt), (1, .int (iI i))]) hx hb dX2_measureLengths_43 rfl hl (by decide) rfl (fun ls hl => ?_)
          refine zv_iconst hx hb dX2_measureLengths_44 ?_
          refine lv_istore_n (lv' := [(3, .int (iI 0)), (2, .int (iI (bsAt S i.toNat))), (0, .ref tt), (1, .int (iI i))]) hx hb dX2_measureLengths_45 rfl hl (by decide) rfl (fun ls hl => ?_)
          have loop46 : ∀ (nn : Nat) (dd : Int) (f : Nat → Int) (fh : Nat → Int) (fc : Int), (0 ≤ dd) → (dd ≤ 4) → (SpOK (bsK (aftZ C R N) S (bsAt S i.toNat) dd.toNat) f fh fc) → (∀ z, (bsK (aftZ C R N) S (bsAt S i.toNat) dd.toNat).2.1 z < ((bsK (aftZ C R N) S (bsAt S i.toNat) dd.toNat).1.length : Int)) → (4 - dd < (nn : Int)) → ∀ (H : Heap) (locs : List Loc), va_P D vwCl [(tt, .inr (2, [.ref fl, .int (iI lim), .ref s1, .ref s2, .int (iI bs), .int (iI P), .int (iI sm)])), (fl, .inr (0, [.int (iI C), .int (iI R), .ref pn, .int (iI np)])), (pn, .inl (cI, 49, .inl (aI gn))), (s1, .inr (1, [.ref d1, .ref r1, .int (iI fc)])), (d1, .inl (cI, 16807, .inl (aI f))), (r1, .inl (cI, 9163, .inl (aI fh)))] H → va_D A [(tt, .inr (2, [.ref fl, .int (iI lim), .ref s1, .ref s2, .int (iI bs), .int (iI P), .int (iI sm)])), (fl, .inr (0, [.int (iI C), .int (iI R), .ref pn, .int (iI np)])), (pn, .inl (cI, 49, .inl (aI gn))), (s1, .inr (1, [.ref d1, .ref r1, .int (iI fc)])), (d1, .inl (cI, 16807, .inl (aI f))), (r1, .inl (cI, 9163, .inl (aI fh)))] → va_S A s.heap H locs → ∀ ls : Array Slot, lv_has ls 4 [(0, .ref tt), (1, .int (iI i)), (2, .int (iI (bsAt S i.toNat))), (3, .int (iI dd))] → W p l e (rmM 5 0 0) s m [.ref tt].toArray below meth c H locs 0 0 (MQ below (QMv D A (fun (u : (Nat → Int) × (Nat → Int) × Int) => SpOK (BF (aftZ C R N) (bs * 343)) u.1 u.2.1 u.2.2) (fun u : (Nat → Int) × (Nat → Int) × Int => [(tt, .inr (2, [.ref fl, .int (iI lim), .ref s1, .ref s2, .int (iI bs), .int (iI P), .int (iI sm)])), (fl, .inr (0, [.int (iI C), .int (iI R), .ref pn, .int (iI np)])), (pn, .inl (cI, 49, .inl (aI gn))), (s1, .inr (1, [.ref d1, .ref r1, .int (iI u.2.2)])), (d1, .inl (cI, 16807, .inl (aI u.1))), (r1, .inl (cI, 9163, .inl (aI u.2.1)))])) [.ref tt].toArray s 0 0 A) (F0 m 46 ls []) := by
            intro nn
            induction nn with
            | zero => intro dd f fh fc hd0 hd1 hsq hbe hms; exfalso; omega
            | succ nn ih46 =>
              intro dd f fh fc hd0 hd1 hsq hbe hms H locs hP hD hS ls hl
              have hBK := BI_K hBI (bsAt_some hil) (fun d k1 k2 => hgd _ d k1 k2) dd.toNat (by omega)
              refine lv_iload_n hx hb dX2_measureLengths_46 rfl (lv_at hl 3 rfl) ?_
              refine zv_iconst hx hb dX2_measureLengths_47 ?_
              refine zv_icmp_ge hx hb dX2_measureLengths_48 (tgt := 74) (by decide) ⟨by omega, by omega⟩ ⟨by omega, by omega⟩ (fun c_8 => ?_) (fun c_8 => ?_)
              · have hd4 : dd.toNat = 4 := by omega
                refine zv_iinc (k := 1) (lv' := [(1, .int (iI (i + 1))), (0, .ref tt), (2, .int (iI (bsAt S i.toNat))), (3, .int (iI dd))]) hx hb dX2_measureLengths_74 hl rfl (by decide) rfl (fun ls hl => ?_)
                refine lv_goto (tgt := 17) hx hb dX2_measureLengths_77 (by decide) ?_
                exact ih17 (i + 1) (bsK (aftZ C R N) S (bsAt S i.toNat) 4) f fh fc (by omega) (by omega) (by rw [show (i + 1).toNat = i.toNat + 1 by omega, show 16807 - (i.toNat + 1) = 16806 - i.toNat by omega]; exact bsG_s (by rw [show 16806 - i.toNat + 1 = 16807 - i.toNat by omega]; exact hG) hil) (by rw [show (i + 1).toNat = i.toNat + 1 by omega]; exact BI_i (by rw [← hd4]; exact hBK) (by omega)) (by rw [← hd4]; exact hsq) (by rw [← hd4]; exact hbe) (by omega) _ _ hP hD hS ls (lv_sub hl [1, 0] rfl)
              · refine lv_aload_n hx hb dX2_measureLengths_51 rfl (lv_at hl 0 rfl) ?_
                refine va_get (D := D) (ci := 2) (v := .ref s1) (C := RX2) (T := TX2) (N := 7) hx hb hts uX2 hown hK.1 hP 0 rfl rfl 2 (by decide) (hts _ q_159) (fun _ h9 => h9) rfl dX2_measureLengths_52 ?_
                refine lv_aload_n hx hb dX2_measureLengths_55 rfl (lv_at hl 0 rfl) ?_
                refine va_get (D := D) (ci := 2) (v := .ref fl) (C := RX2) (T := TX2) (N := 7) hx hb hts uX2 hown hK.1 hP 0 rfl rfl 0 (by decide) (hts _ q_157) (fun _ h9 => h9) rfl dX2_measureLengths_56 ?_
                refine lv_iload_n hx hb dX2_measureLengths_59 rfl (lv_at hl 2 rfl) ?_
                refine lv_iload_n hx hb dX2_measureLengths_60 rfl (lv_at hl 3 rfl) ?_
                refine zc_V (As := [.int (iI (bsAt S i.toNat)), .int (iI dd)]) (rest := [.ref s1]) (ws := [(tt, .inr (2, [.ref fl, .int (iI lim), .ref s1, .ref s2, .int (iI bs), .int (iI P), .int (iI sm)])), (fl, .inr (0, [.int (iI C), .int (iI R), .ref pn, .int (iI np)])), (pn, .inl (cI, 49, .inl (aI gn))), (s1, .inr (1, [.ref d1, .ref r1, .int (iI fc)])), (d1, .inl (cI, 16807, .inl (aI f))), (r1, .inl (cI, 9163, .inl (aI fh)))]) (n := 2) hx hb (hml.trans hl.1.symm) hts hown hK hP (c_X0_after l D cI cJ fl pn C R np gn N (bsAt S i.toNat) dd hF (by omega) (by omega) (by omega) (by omega) (by omega)) (gd_V q_97 q_98 q_99 q_3 q_100) (by decide +kernel) rfl ⟨Nat.le_of_ble_eq_true rfl, Nat.le_of_ble_eq_true rfl⟩ ⟨Nat.le_of_ble_eq_true rfl, Nat.le_of_ble_eq_true rfl⟩ [1, 2] rfl 1 (ci := 0) rfl rfl rfl rfl (Nat.le_of_ble_eq_true rfl) dX2_measureLengths_61 (fun r_9 hr_9 => ?_)
                subst r_9
                refine lv_iload_n hx hb dX2_measureLengths_64 rfl (lv_at hl 2 rfl) ?_
                have hab := aftZ_b hF (d := dd) hf0 hf1 hf2
                have hBd := BI_d hBK (bsK_at _ _ _ _ _ _ (bsAt_some hil)) (by omega) (by omega) (fun k1 k2 => hgd _ _ (by omega) (by omega) k1 k2)
                rw [Int.toNat_of_nonneg hd0] at hBd
                have hln9 := gd_len hBd.1 hBd.2.2.2.1
                have hmf := hBK.2.2.1 (bsAt S i.toNat)
                have hmg : 0 ≤ (bsK (aftZ C R N) S (bsAt S i.toNat) dd.toNat).2.1 (bsAt S i.toNat) := by rcases hmf with k | k <;> first | exact k.1 | exact absurd (List.mem_of_getElem? (bsK_at _ _ _ _ _ _ (bsAt_some hil))) k.2
                have hbf := hbe (bsAt S i.toNat)
                have hlq := hsq.2.2.1
                refine zm_Vv (As := [.int (iI (aftZ C R N (bsAt S i.toNat) dd)), .int (iI (bsAt S i.toNat))]) (rest := []) (ws := [(tt, .inr (2, [.ref fl, .int (iI lim), .ref s1, .ref s2, .int (iI bs), .int (iI P), .int (iI sm)])), (fl, .inr (0, [.int (iI C), .int (iI R), .ref pn, .int (iI np)])), (pn, .inl (cI, 49, .inl (aI gn))), (s1, .inr (1, [.ref d1, .ref r1, .int (iI fc)])), (d1, .inl (cI, 16807, .inl (aI f))), (r1, .inl (cI, 9163, .inl (aI fh)))]) (wr := [(tt, .inr (2, [.ref fl, .int (iI lim), .ref s1, .ref s2, .int (iI bs), .int (iI P), .int (iI sm)])), (fl, .inr (0, [.int (iI C), .int (iI R), .ref pn, .int (iI np)])), (pn, .inl (cI, 49, .inl (aI gn)))]) (n := 2) hx hb (hml.trans hl.1.symm) hts hown hK hP hD hS hA (c_X1_reach l D cI cJ s1 d1 r1 fc f fh (aftZ C R N (bsAt S i.toNat) dd) (bsAt S i.toNat) (bsK (aftZ C R N) S (bsAt S i.toNat) dd.toNat) hsq (by omega) (by omega) (by omega) (by omega) (by omega) (by omega) hln9 _) (gd_V q_149 q_150 q_151 q_2 q_152) (by decide +kernel) rfl ⟨Nat.le_of_ble_eq_true rfl, Nat.le_of_ble_eq_true rfl⟩ ⟨Nat.le_of_ble_eq_true rfl, Nat.le_of_ble_eq_true rfl⟩ [3, 4, 5] [0, 1, 2] rfl rfl (by decide) (by decide) (by decide) 3 (ci := 1) rfl rfl rfl rfl (Nat.le_of_ble_eq_true rfl) dX2_measureLengths_65 (fun u H locs hq_10 hP hD hS => ?_)
                obtain ⟨g9, h9, c9⟩ := u
                have hP := hP.sub (ws' := [(tt, .inr (2, [.ref fl, .int (iI lim), .ref s1, .ref s2, .int (iI bs), .int (iI P), .int (iI sm)])), (fl, .inr (0, [.int (iI C), .int (iI R), .ref pn, .int (iI np)])), (pn, .inl (cI, 49, .inl (aI gn))), (s1, .inr (1, [.ref d1, .ref r1, .int (iI c9)])), (d1, .inl (cI, 16807, .inl (aI g9))), (r1, .inl (cI, 9163, .inl (aI h9)))]) [0, 1, 2, 3, 4, 5] rfl
                have hD := hD.sub (ws' := [(tt, .inr (2, [.ref fl, .int (iI lim), .ref s1, .ref s2, .int (iI bs), .int (iI P), .int (iI sm)])), (fl, .inr (0, [.int (iI C), .int (iI R), .ref pn, .int (iI np)])), (pn, .inl (cI, 49, .inl (aI gn))), (s1, .inr (1, [.ref d1, .ref r1, .int (iI c9)])), (d1, .inl (cI, 16807, .inl (aI g9))), (r1, .inl (cI, 9163, .inl (aI h9)))]) [0, 1, 2, 3, 4, 5] (by decide) rfl
                try dsimp only at hq_10
                have hrc := hq_10
                refine zv_iinc (k := 3) (lv' := [(3, .int (iI (dd + 1))), (0, .ref tt), (1, .int (iI i)), (2, .int (iI (bsAt S i.toNat)))]) hx hb dX2_measureLengths_68 hl rfl (by decide) rfl (fun ls hl => ?_)
                refine lv_goto (tgt := 46) hx hb dX2_measureLengths_71 (by decide) ?_
                exact ih46 (dd + 1) g9 h9 c9 (by omega) (by omega) (by rw [show (dd + 1).toNat = dd.toNat + 1 by omega]; show SpOK (bsR _ (aftZ C R N (bsAt S i.toNat) (dd.toNat : Int)) _) _ _ _; rw [Int.toNat_of_nonneg hd0]; exact hrc) (by rw [show (dd + 1).toNat = dd.toNat + 1 by omega]; exact bsR_b hbe) (by omega) _ _ hP hD hS ls (lv_sub hl [1, 2, 3, 0] rfl)
          exact loop46 5 0 g h ct (by omega) (by omega) hsp hbd (by omega) _ _ hP hD hS ls (lv_sub hl [2, 3, 1, 0] rfl)
  exact loop17 16808 0 (bs0 (bs * 343)) g0 h0 c0 (by omega) (by omega) rfl (BI_0 hbs) hbg (fun z => by show (if z = bs * 343 then (0 : Int) else -1) < 1; split <;> omega) (by omega) _ _ hP hD hS ls (lv_sub hl [1, 0] rfl)
set_option maxRecDepth 100000 in
set_option maxHeartbeats 4000000 in
theorem c_X2_nearestPlaceOf (l : Launch) (D : va_G) (cI cJ : ClassId) (tt fl s1 s2 pn d1 r1 d2 r2 : Nat) (lim bs P sm C R np c1 c2 : Int) (gn g1 g2 h2 : Nat → Int) (N L : Int → Int) (q : Int) (hF : FlOK C R np N gn) (hL : LenOK L g1) (hlm : 1 ≤ lim ∧ lim ≤ 60) (hPg : GdZ C R N P) (hq0 : 0 ≤ q) (hq1 : q < 49) (sz : Nat) : MMi l yX2_nearestPlaceOf (.code yX2_nearestPlaceOf cX2_nearestPlaceOf 5 (some .int)) 6 0 0 [.ref tt, .int (iI q)] D cI cJ [(tt, .inr (2, [.ref fl, .int (iI lim), .ref s1, .ref s2, .int (iI bs), .int (iI P), .int (iI sm)])), (fl, .inr (0, [.int (iI C), .int (iI R), .ref pn, .int (iI np)])), (pn, .inl (cI, 49, .inl (aI gn))), (s1, .inr (1, [.ref d1, .ref r1, .int (iI c1)])), (d1, .inl (cI, 16807, .inl (aI g1))), (s2, .inr (1, [.ref d2, .ref r2, .int (iI c2)])), (d2, .inl (cI, 16807, .inl (aI g2))), (r2, .inl (cI, 9163, .inl (aI h2)))] sz (fun (r : Int) (u : (Nat → Int) × (Nat → Int) × Int) => r = (bsF (astZ C R N L lim) q 16807 0 (bs0 P)).1 ∧ SpOK (bsF (astZ C R N L lim) q 16807 0 (bs0 P)).2 u.1 u.2.1 u.2.2) (fun u : (Nat → Int) × (Nat → Int) × Int => [(tt, .inr (2, [.ref fl, .int (iI lim), .ref s1, .ref s2, .int (iI bs), .int (iI P), .int (iI sm)])), (fl, .inr (0, [.int (iI C), .int (iI R), .ref pn, .int (iI np)])), (pn, .inl (cI, 49, .inl (aI gn))), (s1, .inr (1, [.ref d1, .ref r1, .int (iI c1)])), (d1, .inl (cI, 16807, .inl (aI g1))), (s2, .inr (1, [.ref d2, .ref r2, .int (iI u.2.2)])), (d2, .inl (cI, 16807, .inl (aI u.1))), (r2, .inl (cI, 9163, .inl (aI u.2.1)))]) := by
  obtain ⟨hC1, hC2, hR1, hR2, hp1, hp2, -, -⟩ := id hF
  obtain ⟨hP0, hP1, -, -, -, -⟩ := id hPg
  have hgd : ∀ z d : Int, 0 ≤ d → d ≤ 3 → GdZ C R N z → astZ C R N L lim z d ≠ -1 → GdZ C R N (astZ C R N L lim z d) := fun z d k1 k2 k3 k4 => astZ_gd hF k3 k1 k2 k4
  refine MM_of (Qc := fun A => QMi D A (fun (r : Int) (u : (Nat → Int) × (Nat → Int) × Int) => r = (bsF (astZ C R N L lim) q 16807 0 (bs0 P)).1 ∧ SpOK (bsF (astZ C R N L lim) q 16807 0 (bs0 P)).2 u.1 u.2.1 u.2.2) (fun u : (Nat → Int) × (Nat → Int) × Int => [(tt, .inr (2, [.ref fl, .int (iI lim), .ref s1, .ref s2, .int (iI bs), .int (iI P), .int (iI sm)])), (fl, .inr (0, [.int (iI C), .int (iI R), .ref pn, .int (iI np)])), (pn, .inl (cI, 49, .inl (aI gn))), (s1, .inr (1, [.ref d1, .ref r1, .int (iI c1)])), (d1, .inl (cI, 16807, .inl (aI g1))), (s2, .inr (1, [.ref d2, .ref r2, .int (iI u.2.2)])), (d2, .inl (cI, 16807, .inl (aI u.1))), (r2, .inl (cI, 9163, .inl (aI u.2.1)))])) (by decide) rfl (Nat.le_of_ble_eq_true rfl) (fun p e s m below meth c ls A hx hb hr hts hown hlk hml hin hK hP hD hA hS hl => ?_)
  have hl : lv_has ls 5 [(0, .ref tt), (1, .int (iI q))] := hl
  refine lv_aload_n hx hb dX2_nearestPlaceOf_0 rfl (lv_at hl 0 rfl) ?_
  refine va_get (D := D) (ci := 2) (v := .ref s2) (C := RX2) (T := TX2) (N := 7) hx hb hts uX2 hown hK.1 hP 0 rfl rfl 3 (by decide) (hts _ q_160) (fun _ h9 => h9) rfl dX2_nearestPlaceOf_1 ?_
  refine lv_aload_n hx hb dX2_nearestPlaceOf_4 rfl (lv_at hl 0 rfl) ?_
  refine va_get (D := D) (ci := 2) (v := .int (iI P)) (C := RX2) (T := TX2) (N := 7) hx hb hts uX2 hown hK.1 hP 0 rfl rfl 5 (by decide) (hts _ q_162) (fun _ h9 => h9) rfl dX2_nearestPlaceOf_5 ?_
  refine zm_Vv (As := [.int (iI P)]) (rest := []) (ws := [(tt, .inr (2, [.ref fl, .int (iI lim), .ref s1, .ref s2, .int (iI bs), .int (iI P), .int (iI sm)])), (fl, .inr (0, [.int (iI C), .int (iI R), .ref pn, .int (iI np)])), (pn, .inl (cI, 49, .inl (aI gn))), (s1, .inr (1, [.ref d1, .ref r1, .int (iI c1)])), (d1, .inl (cI, 16807, .inl (aI g1))), (s2, .inr (1, [.ref d2, .ref r2, .int (iI c2)])), (d2, .inl (cI, 16807, .inl (aI g2))), (r2, .inl (cI, 9163, .inl (aI h2)))]) (wr := [(tt, .inr (2, [.ref fl, .int (iI lim), .ref s1, .ref s2, .int (iI bs), .int (iI P), .int (iI sm)])), (fl, .inr (0, [.int (iI C), .int (iI R), .ref pn, .int (iI np)])), (pn, .inl (cI, 49, .inl (aI gn))), (s1, .inr (1, [.ref d1, .ref r1, .int (iI c1)])), (d1, .inl (cI, 16807, .inl (aI g1)))]) (n := 1) hx hb (hml.trans hl.1.symm) hts hown hK hP hD hS hA (c_X1_begin l D cI cJ s2 d2 r2 c2 g2 h2 P (by omega) (by omega) _) (gd_V q_80 q_81 q_82 q_2 q_83) (by decide +kernel) rfl ⟨Nat.le_of_ble_eq_true rfl, Nat.le_of_ble_eq_true rfl⟩ ⟨Nat.le_of_ble_eq_true rfl, Nat.le_of_ble_eq_true rfl⟩ [5, 6, 7] [0, 1, 2, 3, 4] rfl rfl (by decide) (by decide) (by decide) 5 (ci := 1) rfl rfl rfl rfl (Nat.le_of_ble_eq_true rfl) dX2_nearestPlaceOf_8 (fun u H locs hq_1 hP hD hS => ?_)
  obtain ⟨g0, h0, c0⟩ := u
  have hP := hP.sub (ws' := [(tt, .inr (2, [.ref fl, .int (iI lim), .ref s1, .ref s2, .int (iI bs), .int (iI P), .int (iI sm)])), (fl, .inr (0, [.int (iI C), .int (iI R), .ref pn, .int (iI np)])), (pn, .inl (cI, 49, .inl (aI gn))), (s1, .inr (1, [.ref d1, .ref r1, .int (iI c1)])), (d1, .inl (cI, 16807, .inl (aI g1))), (s2, .inr (1, [.ref d2, .ref r2, .int (iI c0)])), (d2, .inl (cI, 16807, .inl (aI g0))), (r2, .inl (cI, 9163, .inl (aI h0)))]) [0, 1, 2, 3, 4, 5, 6, 7] rfl
  have hD := hD.sub (ws' := [(tt, .inr (2, [.ref fl, .int (iI lim), .ref s1, .ref s2, .int (iI bs), .int (iI P), .int (iI sm)])), (fl, .inr (0, [.int (iI C), .int (iI R), .ref pn, .int (iI np)])), (pn, .inl (cI, 49, .inl (aI gn))), (s1, .inr (1, [.ref d1, .ref r1, .int (iI c1)])), (d1, .inl (cI, 16807, .inl (aI g1))), (s2, .inr (1, [.ref d2, .ref r2, .int (iI c0)])), (d2, .inl (cI, 16807, .inl (aI g0))), (r2, .inl (cI, 9163, .inl (aI h0)))]) [0, 1, 2, 3, 4, 5, 6, 7] (by decide) rfl
  try dsimp only at hq_1
  have hbg := hq_1
  refine zv_iconst hx hb dX2_nearestPlaceOf_11 ?_
  refine lv_istore_n (lv' := [(2, .int (iI 0)), (0, .ref tt), (1, .int (iI q))]) hx hb dX2_nearestPlaceOf_12 rfl hl (by decide) rfl (fun ls hl => ?_)
  have loop13 : ∀ (nn : Nat) (i : Int) (S : BS) (g : Nat → Int) (h : Nat → Int) (ct : Int), (0 ≤ i) → (i ≤ 16807) → (bsF (astZ C R N L lim) q (16807 - i.toNat) i.toNat S = bsF (astZ C R N L lim) q 16807 0 (bs0 P)) → (BI (astZ C R N L lim) P (GdZ C R N) S i.toNat 0) → (SpOK S g h ct) → (∀ z, S.2.1 z < (S.1.length : Int)) → (16807 - i < (nn : Int)) → ∀ (H : Heap) (locs : List Loc), va_P D vwCl [(tt, .inr (2, [.ref fl, .int (iI lim), .ref s1, .ref s2, .int (iI bs), .int (iI P), .int (iI sm)])), (fl, .inr (0, [.int (iI C), .int (iI R), .ref pn, .int (iI np)])), (pn, .inl (cI, 49, .inl (aI gn))), (s1, .inr (1, [.ref d1, .ref r1, .int (iI c1)])), (d1, .inl (cI, 16807, .inl (aI g1))), (s2, .inr (1, [.ref d2, .ref r2, .int (iI ct)])), (d2, .inl (cI, 16807, .inl (aI g))), (r2, .inl (cI, 9163, .inl (aI h)))] H → va_D A [(tt, .inr (2, [.ref fl, .int (iI lim), .ref s1, .ref s2, .int (iI bs), .int (iI P), .int (iI sm)])), (fl, .inr (0, [.int (iI C), .int (iI R), .ref pn, .int (iI np)])), (pn, .inl (cI, 49, .inl (aI gn))), (s1, .inr (1, [.ref d1, .ref r1, .int (iI c1)])), (d1, .inl (cI, 16807, .inl (aI g1))), (s2, .inr (1, [.ref d2, .ref r2, .int (iI ct)])), (d2, .inl (cI, 16807, .inl (aI g))), (r2, .inl (cI, 9163, .inl (aI h)))] → va_S A s.heap H locs → ∀ ls : Array Slot, lv_has ls 5 [(0, .ref tt), (1, .int (iI q)), (2, .int (iI i))] → W p l e (rmM 6 0 0) s m [.ref tt, .int (iI q)].toArray below meth c H locs 0 0 (MQ below (QMi D A (fun (r : Int) (u : (Nat → Int) × (Nat → Int) × Int) => r = (bsF (astZ C R N L lim) q 16807 0 (bs0 P)).1 ∧ SpOK (bsF (astZ C R N L lim) q 16807 0 (bs0 P)).2 u.1 u.2.1 u.2.2) (fun u : (Nat → Int) × (Nat → Int) × Int => [(tt, .inr (2, [.ref fl, .int (iI lim), .ref s1, .ref s2, .int (iI bs), .int (iI P), .int (iI sm)])), (fl, .inr (0, [.int (iI C), .int (iI R), .ref pn, .int (iI np)])), (pn, .inl (cI, 49, .inl (aI gn))), (s1, .inr (1, [.ref d1, .ref r1, .int (iI c1)])), (d1, .inl (cI, 16807, .inl (aI g1))), (s2, .inr (1, [.ref d2, .ref r2, .int (iI u.2.2)])), (d2, .inl (cI, 16807, .inl (aI u.1))), (r2, .inl (cI, 9163, .inl (aI u.2.1)))])) [.ref tt, .int (iI q)].toArray s 0 0 A) (F0 m 13 ls []) := by
    intro nn
    induction nn with
    | zero => intro i S g h ct hi0 hi1 hG hBI hsp hbd hms; exfalso; omega
    | succ nn ih13 =>
      intro i S g h ct hi0 hi1 hG hBI hsp hbd hms H locs hP hD hS ls hl
      obtain ⟨hLn, hct, hln, hat⟩ := id hsp
      refine lv_iload_n hx hb dX2_nearestPlaceOf_13 rfl (lv_at hl 2 rfl) ?_
      refine zv_sipush hx hb dX2_nearestPlaceOf_14 (by decide) ?_
      refine zv_icmp_ge hx hb dX2_nearestPlaceOf_17 (tgt := 86) (by decide) ⟨by omega, by omega⟩ ⟨by omega, by omega⟩ (fun c_3 => ?_) (fun c_3 => ?_)
      · refine zv_iconst hx hb dX2_nearestPlaceOf_86 ?_
        exact MM_iret (g, h, ct) hx hb hr hlk hP hD hS (Nat.le_of_ble_eq_true rfl) (Nat.le_of_ble_eq_true rfl) dX2_nearestPlaceOf_87 (by rw [bsF_e hG (by omega)]; exact ⟨rfl, hsp⟩)
      · refine lv_iload_n hx hb dX2_nearestPlaceOf_20 rfl (lv_at hl 2 rfl) ?_
        refine lv_aload_n hx hb dX2_nearestPlaceOf_21 rfl (lv_at hl 0 rfl) ?_
        refine va_get (D := D) (ci := 2) (v := .ref s2) (C := RX2) (T := TX2) (N := 7) hx hb hts uX2 hown hK.1 hP 0 rfl rfl 3 (by decide) (hts _ q_160) (fun _ h9 => h9) rfl dX2_nearestPlaceOf_22 ?_
        refine zc_V (As := []) (rest := [.int (iI i)]) (ws := [(tt, .inr (2, [.ref fl, .int (iI lim), .ref s1, .ref s2, .int (iI bs), .int (iI P), .int (iI sm)])), (fl, .inr (0, [.int (iI C), .int (iI R), .ref pn, .int (iI np)])), (pn, .inl (cI, 49, .inl (aI gn))), (s1, .inr (1, [.ref d1, .ref r1, .int (iI c1)])), (d1, .inl (cI, 16807, .inl (aI g1))), (s2, .inr (1, [.ref d2, .ref r2, .int (iI ct)])), (d2, .inl (cI, 16807, .inl (aI g))), (r2, .inl (cI, 9163, .inl (aI h)))]) (n := 0) hx hb (hml.trans hl.1.symm) hts hown hK hP (c_X1_count l D cI cJ s2 d2 r2 ct) (gd_V q_89 q_90 q_91 q_2 q_92) (by decide +kernel) rfl ⟨Nat.le_of_ble_eq_true rfl, Nat.le_of_ble_eq_true rfl⟩ ⟨Nat.le_of_ble_eq_true rfl, Nat.le_of_ble_eq_true rfl⟩ [5] rfl 5 (ci := 1) rfl rfl rfl rfl (Nat.le_of_ble_eq_true rfl) dX2_nearestPlaceOf_25 (fun r_4 hr_4 => ?_)
        subst r_4
        refine zv_icmp_ge hx hb dX2_nearestPlaceOf_28 (tgt := 86) (by decide) ⟨by omega, by omega⟩ ⟨by omega, by omega⟩ (fun c_5 => ?_) (fun c_5 => ?_)
        · refine zv_iconst hx hb dX2_nearestPlaceOf_86 ?_
          exact MM_iret (g, h, ct) hx hb hr hlk hP hD hS (Nat.le_of_ble_eq_true rfl) (Nat.le_of_ble_eq_true rfl) dX2_nearestPlaceOf_87 (by rw [bsF_e hG (by omega)]; exact ⟨rfl, hsp⟩)
        · have hil : i.toNat < S.1.length := by omega
          have hpt := hat i.toNat hil
          have hgf := hBI.2.2.2.1 _ (List.mem_of_getElem? (bsAt_some hil))
          obtain ⟨hf0, hf1, hf2⟩ := hgf.pl
          refine lv_aload_n hx hb dX2_nearestPlaceOf_31 rfl (lv_at hl 0 rfl) ?_
          refine va_get (D := D) (ci := 2) (v := .ref s2) (C := RX2) (T := TX2) (N := 7) hx hb hts uX2 hown hK.1 hP 0 rfl rfl 3 (by decide) (hts _ q_160) (fun _ h9 => h9) rfl dX2_nearestPlaceOf_32 ?_
          refine lv_iload_n hx hb dX2_nearestPlaceOf_35 rfl (lv_at hl 2 rfl) ?_
          refine zc_V (As := [.int (iI i)]) (rest := []) (ws := [(tt, .inr (2, [.ref fl, .int (iI lim), .ref s1, .ref s2, .int (iI bs), .int (iI P), .int (iI sm)])), (fl, .inr (0, [.int (iI C), .int (iI R), .ref pn, .int (iI np)])), (pn, .inl (cI, 49, .inl (aI gn))), (s1, .inr (1, [.ref d1, .ref r1, .int (iI c1)])), (d1, .inl (cI, 16807, .inl (aI g1))), (s2, .inr (1, [.ref d2, .ref r2, .int (iI ct)])), (d2, .inl (cI, 16807, .inl (aI g))), (r2, .inl (cI, 9163, .inl (aI h)))]) (n := 1) hx hb (hml.trans hl.1.symm) hts hown hK hP (c_X1_placeAt l D cI cJ s2 d2 r2 ct h i (by omega) (by omega) (by omega) (by omega)) (gd_V q_93 q_94 q_95 q_2 q_96) (by decide +kernel) rfl ⟨Nat.le_of_ble_eq_true rfl, Nat.le_of_ble_eq_true rfl⟩ ⟨Nat.le_of_ble_eq_true rfl, Nat.le_of_ble_eq_true rfl⟩ [5, 7] rfl 5 (ci := 1) rfl rfl rfl rfl (Nat.le_of_ble_eq_true rfl) dX2_nearestPlaceOf_36 (fun r_6 hr_6 => ?_)
          subst r_6
          refine zv_top (y := (bsAt S i.toNat)) (hpt) ?_
          refine lv_istore_n (lv' := [(3, .int (iI (bsAt S i.toNat))), (0, .ref tt), (1, .int (iI q)), (2, .int (iI i))]) hx hb dX2_nearestPlaceOf_39 rfl hl (by decide) rfl (fun ls hl => ?_)
          refine lv_iload_n hx hb dX2_nearestPlaceOf_40 rfl (lv_at hl 0 rfl) ?_
          refine zc_S (As := [.int (iI (bsAt S i.toNat))]) (rest := []) (ws := [(tt, .inr (2, [.ref fl, .int (iI lim), .ref s1, .ref s2, .int (iI bs), .int (iI P), .int (iI sm)])), (fl, .inr (0, [.int (iI C), .int (iI R), .ref pn, .int (iI np)])), (pn, .inl (cI, 49, .inl (aI gn))), (s1, .inr (1, [.ref d1, .ref r1, .int (iI c1)])), (d1, .inl (cI, 16807, .inl (aI g1))), (s2, .inr (1, [.ref d2, .ref r2, .int (iI ct)])), (d2, .inl (cI, 16807, .inl (aI g))), (r2, .inl (cI, 9163, .inl (aI h)))]) (n := 1) hx hb (hml.trans hl.1.symm) hts hown hK hP (c_X2_squareOf l D cI cJ (bsAt S i.toNat) (by omega) (by omega)) (gd_S q_183 q_102 q_1 q_103) (by decide +kernel) rfl ⟨Nat.le_of_ble_eq_true rfl, Nat.le_of_ble_eq_true rfl⟩ ⟨Nat.le_of_ble_eq_true rfl, Nat.le_of_ble_eq_true rfl⟩ [] rfl rfl (Nat.le_of_ble_eq_true rfl) dX2_nearestPlaceOf_41 (fun r_7 hr_7 => ?_)
          subst r_7
          refine lv_iload_n hx hb dX2_nearestPlaceOf_44 rfl (lv_at hl 2 rfl) ?_
          refine zv_icmp_ne hx hb dX2_nearestPlaceOf_45 (tgt := 50) (by decide) ⟨by omega, by omega⟩ ⟨by omega, by omega⟩ (fun c_8 => ?_) (fun c_8 => ?_)
          · have hnq : ¬ bsAt S i.toNat / 343 = q := by assumption
            refine zv_iconst hx hb dX2_nearestPlaceOf_50 ?_
            refine lv_istore (lv' := [(4, .int (iI 0)), (3, .int (iI (bsAt S i.toNat))), (0, .ref tt), (1, .int (iI q)), (2, .int (iI i))]) hx hb dX2_nearestPlaceOf_51 hl (by decide) rfl (fun ls hl => ?_)
            have loop53 : ∀ (nn : Nat) (dd : Int) (f : Nat → Int) (fh : Nat → Int) (fc : Int), (0 ≤ dd) → (dd ≤ 4) → (SpOK (bsK (astZ C R N L lim) S (bsAt S i.toNat) dd.toNat) f fh fc) → (∀ z, (bsK (astZ C R N L lim) S (bsAt S i.toNat) dd.toNat).2.1 z < ((bsK (astZ C R N L lim) S (bsAt S i.toNat) dd.toNat).1.length : Int)) → (4 - dd < (nn : Int)) → ∀ (H : Heap) (locs : List Loc), va_P D vwCl [(tt, .inr (2, [.ref fl, .int (iI lim), .ref s1, .ref s2, .int (iI bs), .int (iI P), .int (iI sm)])), (fl, .inr (0, [.int (iI C), .int (iI R), .ref pn, .int (iI np)])), (pn, .inl (cI, 49, .inl (aI gn))), (s1, .inr (1, [.ref d1, .ref r1, .int (iI c1)])), (d1, .inl (cI, 16807, .inl (aI g1))), (s2, .inr (1, [.ref d2, .ref r2, .int (iI fc)])), (d2, .inl (cI, 16807, .inl (aI f))), (r2, .inl (cI, 9163, .inl (aI fh)))] H → va_D A [(tt, .inr (2, [.ref fl, .int (iI lim), .ref s1, .ref s2, .int (iI bs), .int (iI P), .int (iI sm)])), (fl, .inr (0, [.int (iI C), .int (iI R), .ref pn, .int (iI np)])), (pn, .inl (cI, 49, .inl (aI gn))), (s1, .inr (1, [.ref d1, .ref r1, .int (iI c1)])), (d1, .inl (cI, 16807, .inl (aI g1))), (s2, .inr (1, [.ref d2, .ref r2, .int (iI fc)])), (d2, .inl (cI, 16807, .inl (aI f))), (r2, .inl (cI, 9163, .inl (aI fh)))] → va_S A s.heap H locs → ∀ ls : Array Slot, lv_has ls 5 [(0, .ref tt), (1, .int (iI q)), (2, .int (iI i)), (3, .int (iI (bsAt S i.toNat))), (4, .int (iI dd))] → W p l e (rmM 6 0 0) s m [.ref tt, .int (iI q)].toArray below meth c H locs 0 0 (MQ below (QMi D A (fun (r : Int) (u : (Nat → Int) × (Nat → Int) × Int) => r = (bsF (astZ C R N L lim) q 16807 0 (bs0 P)).1 ∧ SpOK (bsF (astZ C R N L lim) q 16807 0 (bs0 P)).2 u.1 u.2.1 u.2.2) (fun u : (Nat → Int) × (Nat → Int) × Int => [(tt, .inr (2, [.ref fl, .int (iI lim), .ref s1, .ref s2, .int (iI bs), .int (iI P), .int (iI sm)])), (fl, .inr (0, [.int (iI C), .int (iI R), .ref pn, .int (iI np)])), (pn, .inl (cI, 49, .inl (aI gn))), (s1, .inr (1, [.ref d1, .ref r1, .int (iI c1)])), (d1, .inl (cI, 16807, .inl (aI g1))), (s2, .inr (1, [.ref d2, .ref r2, .int (iI u.2.2)])), (d2, .inl (cI, 16807, .inl (aI u.1))), (r2, .inl (cI, 9163, .inl (aI u.2.1)))])) [.ref tt, .int (iI q)].toArray s 0 0 A) (F0 m 53 ls []) := by
              intro nn
              induction nn with
              | zero => intro dd f fh fc hd0 hd1 hsq hbe hms; exfalso; omega
              | succ nn ih53 =>
                intro dd f fh fc hd0 hd1 hsq hbe hms H locs hP hD hS ls hl
                have hBK := BI_K hBI (bsAt_some hil) (fun d k1 k2 => hgd _ d k1 k2) dd.toNat (by omega)
                refine lv_iload hx hb dX2_nearestPlaceOf_53 (lv_at hl 4 rfl) ?_
                refine zv_iconst hx hb dX2_nearestPlaceOf_55 ?_
                refine zv_icmp_ge hx hb dX2_nearestPlaceOf_56 (tgt := 80) (by decide) ⟨by omega, by omega⟩ ⟨by omega, by omega⟩ (fun c_9 => ?_) (fun c_9 => ?_)
                · have hd4 : dd.toNat = 4 := by omega
                  refine zv_iinc (k := 2) (lv' := [(2, .int (iI (i + 1))), (0, .ref tt), (1, .int (iI q)), (3, .int (iI (bsAt S i.toNat))), (4, .int (iI dd))]) hx hb dX2_nearestPlaceOf_80 hl rfl (by decide) rfl (fun ls hl => ?_)
                  refine lv_goto (tgt := 13) hx hb dX2_nearestPlaceOf_83 (by decide) ?_
                  exact ih13 (i + 1) (bsK (astZ C R N L lim) S (bsAt S i.toNat) 4) f fh fc (by omega) (by omega) (by rw [show (i + 1).toNat = i.toNat + 1 by omega, show 16807 - (i.toNat + 1) = 16806 - i.toNat by omega]; exact bsF_s (by rw [show 16806 - i.toNat + 1 = 16807 - i.toNat by omega]; exact hG) hil hnq) (by rw [show (i + 1).toNat = i.toNat + 1 by omega]; exact BI_i (by rw [← hd4]; exact hBK) (by omega)) (by rw [← hd4]; exact hsq) (by rw [← hd4]; exact hbe) (by omega) _ _ hP hD hS ls (lv_sub hl [1, 2, 0] rfl)
                · refine lv_aload_n hx hb dX2_nearestPlaceOf_59 rfl (lv_at hl 0 rfl) ?_
                  refine va_get (D := D) (ci := 2) (v := .ref s2) (C := RX2) (T := TX2) (N := 7) hx hb hts uX2 hown hK.1 hP 0 rfl rfl 3 (by decide) (hts _ q_160) (fun _ h9 => h9) rfl dX2_nearestPlaceOf_60 ?_
                  refine lv_aload_n hx hb dX2_nearestPlaceOf_63 rfl (lv_at hl 0 rfl) ?_
                  refine lv_iload_n hx hb dX2_nearestPlaceOf_64 rfl (lv_at hl 3 rfl) ?_
                  refine lv_iload hx hb dX2_nearestPlaceOf_65 (lv_at hl 4 rfl) ?_
                  refine zc_V (As := [.int (iI (bsAt S i.toNat)), .int (iI dd)]) (rest := [.ref s2]) (ws := [(tt, .inr (2, [.ref fl, .int (iI lim), .ref s1, .ref s2, .int (iI bs), .int (iI P), .int (iI sm)])), (fl, .inr (0, [.int (iI C), .int (iI R), .ref pn, .int (iI np)])), (pn, .inl (cI, 49, .inl (aI gn))), (s1, .inr (1, [.ref d1, .ref r1, .int (iI c1)])), (d1, .inl (cI, 16807, .inl (aI g1))), (s2, .inr (1, [.ref d2, .ref r2, .int (iI fc)])), (d2, .inl (cI, 16807, .inl (aI f))), (r2, .inl (cI, 9163, .inl (aI fh)))]) (n := 2) hx hb (hml.trans hl.1.symm) hts hown hK hP (c_X2_afterStep l D cI cJ tt fl s1 s2 pn d1 r1 lim bs P sm C R np c1 gn g1 N L (bsAt S i.toNat) dd hF hL hlm (by omega) (by omega) (by omega) (by omega) (by omega)) (gd_V q_376 q_378 q_1011 q_1 q_379) (by decide +kernel) rfl ⟨Nat.le_of_ble_eq_true rfl, Nat.le_of_ble_eq_true rfl⟩ ⟨Nat.le_of_ble_eq_true rfl, Nat.le_of_ble_eq_true rfl⟩ [0, 1, 2, 3, 4] rfl 0 (ci := 2) rfl rfl rfl rfl (Nat.le_of_ble_eq_true rfl) dX2_nearestPlaceOf_67 (fun r_10 hr_10 => ?_)
                  subst r_10
                  refine lv_iload_n hx hb dX2_nearestPlaceOf_70 rfl (lv_at hl 3 rfl) ?_
                  have hab := astZ_b hF (L := L) (lim := lim) (d := dd) hf0 hf1 hf2
                  have hBd := BI_d hBK (bsK_at _ _ _ _ _ _ (bsAt_some hil)) (by omega) (by omega) (fun k1 k2 => hgd _ _ (by omega) (by omega) k1 k2)
                  rw [Int.toNat_of_nonneg hd0] at hBd
                  have hln9 := gd_len hBd.1 hBd.2.2.2.1
                  have hmf := hBK.2.2.1 (bsAt S i.toNat)
                  have hmg : 0 ≤ (bsK (astZ C R N L lim) S (bsAt S i.toNat) dd.toNat).2.1 (bsAt S i.toNat) := by rcases hmf with k | k <;> first | exact k.1 | exact absurd (List.mem_of_getElem? (bsK_at _ _ _ _ _ _ (bsAt_some hil))) k.2
                  have hbf := hbe (bsAt S i.toNat)
                  have hlq := hsq.2.2.1
                  refine zm_Vv (As := [.int (iI (astZ C R N L lim (bsAt S i.toNat) dd)), .int (iI (bsAt S i.toNat))]) (rest := []) (ws := [(tt, .inr (2, [.ref fl, .int (iI lim), .ref s1, .ref s2, .int (iI bs), .int (iI P), .int (iI sm)])), (fl, .inr (0, [.int (iI C), .int (iI R), .ref pn, .int (iI np)])), (pn, .inl (cI, 49, .inl (aI gn))), (s1, .inr (1, [.ref d1, .ref r1, .int (iI c1)])), (d1, .inl (cI, 16807, .inl (aI g1))), (s2, .inr (1, [.ref d2, .ref r2, .int (iI fc)])), (d2, .inl (cI, 16807, .inl (aI f))), (r2, .inl (cI, 9163, .inl (aI fh)))]) (wr := [(tt, .inr (2, [.ref fl, .int (iI lim), .ref s1, .ref s2, .int (iI bs), .int (iI P), .int (iI sm)])), (fl, .inr (0, [.int (iI C), .int (iI R), .ref pn, .int (iI np)])), (pn, .inl (cI, 49, .inl (aI gn))), (s1, .inr (1, [.ref d1, .ref r1, .int (iI c1)])), (d1, .inl (cI, 16807, .inl (aI g1)))]) (n := 2) hx hb (hml.trans hl.1.symm) hts hown hK hP hD hS hA (c_X1_reach l D cI cJ s2 d2 r2 fc f fh (astZ C R N L lim (bsAt S i.toNat) dd) (bsAt S i.toNat) (bsK (astZ C R N L lim) S (bsAt S i.toNat) dd.toNat) hsq (by omega) (by omega) (by omega) (by omega) (by omega) (by omega) hln9 _) (gd_V q_149 q_150 q_151 q_2 q_152) (by decide +kernel) rfl ⟨Nat.le_of_ble_eq_true rfl, Nat.le_of_ble_eq_true rfl⟩ ⟨Nat.le_of_ble_eq_true rfl, Nat.le_of_ble_eq_true rfl⟩ [5, 6, 7] [0, 1, 2, 3, 4] rfl rfl (by decide) (by decide) (by decide) 5 (ci := 1) rfl rfl rfl rfl (Nat.le_of_ble_eq_true rfl) dX2_nearestPlaceOf_71 (fun u H locs hq_11 hP hD hS => ?_)
                  obtain ⟨g9, h9, c9⟩ := u
                  have hP := hP.sub (ws' := [(tt, .inr (2, [.ref fl, .int (iI lim), .ref s1, .ref s2, .int (iI bs), .int (iI P), .int (iI sm)])), (fl, .inr (0, [.int (iI C), .int (iI R), .ref pn, .int (iI np)])), (pn, .inl (cI, 49, .inl (aI gn))), (s1, .inr (1, [.ref d1, .ref r1, .int (iI c1)])), (d1, .inl (cI, 16807, .inl (aI g1))), (s2, .inr (1, [.ref d2, .ref r2, .int (iI c9)])), (d2, .inl (cI, 16807, .inl (aI g9))), (r2, .inl (cI, 9163, .inl (aI h9)))]) [0, 1, 2, 3, 4, 5, 6, 7] rfl
                  have hD := hD.sub (ws' := [(tt, .inr (2, [.ref fl, .int (iI lim), .ref s1, .ref s2, .int (iI bs), .int (iI P), .int (iI sm)])), (fl, .inr (0, [.int (iI C), .int (iI R), .ref pn, .int (iI np)])), (pn, .inl (cI, 49, .inl (aI gn))), (s1, .inr (1, [.ref d1, .ref r1, .int (iI c1)])), (d1, .inl (cI, 16807, .inl (aI g1))), (s2, .inr (1, [.ref d2, .ref r2, .int (iI c9)])), (d2, .inl (cI, 16807, .inl (aI g9))), (r2, .inl (cI, 9163, .inl (aI h9)))]) [0, 1, 2, 3, 4, 5, 6, 7] (by decide) rfl
                  try dsimp only at hq_11
                  have hrc := hq_11
                  refine zv_iinc (k := 4) (lv' := [(4, .int (iI (dd + 1))), (0, .ref tt), (1, .int (iI q)), (2, .int (iI i)), (3, .int (iI (bsAt S i.toNat)))]) hx hb dX2_nearestPlaceOf_74 hl rfl (by decide) rfl (fun ls hl => ?_)
                  refine lv_goto (tgt := 53) hx hb dX2_nearestPlaceOf_77 (by decide) ?_
                  exact ih53 (dd + 1) g9 h9 c9 (by omega) (by omega) (by rw [show (dd + 1).toNat = dd.toNat + 1 by omega]; show SpOK (bsR _ (astZ C R N L lim (bsAt S i.toNat) (dd.toNat : Int)) _) _ _ _; rw [Int.toNat_of_nonneg hd0]; exact hrc) (by rw [show (dd + 1).toNat = dd.toNat + 1 by omega]; exact bsR_b hbe) (by omega) _ _ hP hD hS ls (lv_sub hl [1, 2, 3, 4, 0] rfl)
            exact loop53 5 0 g h ct (by omega) (by omega) hsp hbd (by omega) _ _ hP hD hS ls (lv_sub hl [2, 3, 4, 1, 0] rfl)
          · refine lv_iload_n hx hb dX2_nearestPlaceOf_48 rfl (lv_at hl 0 rfl) ?_
            exact MM_iret (g, h, ct) hx hb hr hlk hP hD hS (Nat.le_of_ble_eq_true rfl) (Nat.le_of_ble_eq_true rfl) dX2_nearestPlaceOf_49 (by rw [bsF_q hG (by omega) hil (by assumption)]; exact ⟨rfl, hsp⟩)
  exact loop13 16808 0 (bs0 P) g0 h0 c0 (by omega) (by omega) rfl (BI_0 hPg) hbg (fun z => by show (if z = P then (0 : Int) else -1) < 1; split <;> omega) (by omega) _ _ hP hD hS ls (lv_sub hl [1, 2, 0] rfl)
end
section
/-- the reference's arrays hold a search's state: its lengths and its queue -/
def MSOK (S : BS) (gl gq : Nat → Int) : Prop := MLen S.2.1 gl ∧ ∀ j : Nat, j < S.1.length → gq j = tauZ (bsAt S j)
theorem tauZ_inj {x y : Int} (hx0 : 0 ≤ x) (hx : x < 16807) (hy0 : 0 ≤ y) (hy : y < 16807) (h : tauZ x = tauZ y) : x = y := by
  rw [← tauZ_tauZ hx0 hx, h, tauZ_tauZ hy0 hy]
theorem bsR_D {S : BS} {q f : Int} (hc : q ≠ -1 ∧ S.2.1 q = -1) (z : Int) : (bsR S q f).2.1 z = (if z = q then S.2.1 f + 1 else S.2.1 z) ∧ (bsR S q f).2.2 z = if z = q then f else S.2.2 z := by
  have e : bsR S q f = (S.1 ++ [q], fun z => if z = q then S.2.1 f + 1 else S.2.1 z, fun z => if z = q then f else S.2.2 z) := if_pos hc
  rw [e]
  exact ⟨rfl, rfl⟩
theorem MSOK_0 {s : Int} {gl gq : Nat → Int} (hs0 : 0 ≤ s) (hs : s < 16807) (hg : ∀ k : Nat, (k : Int) < 16807 → gl k = -1) : MSOK (bs0 s) (updZ gl (tauZ s).toNat 0) (updZ gq 0 (tauZ s)) := by
  have ht := tauZ_of hs0 hs
  refine ⟨⟨fun z z0 z1 => ?_, fun z => ?_, fun z hz => ?_⟩, fun j hj => ?_⟩
  · show updZ gl (tauZ s).toNat 0 (tauZ z).toNat = if z = s then 0 else -1
    have hz := tauZ_of z0 z1
    by_cases hzs : z = s
    · rw [if_pos hzs, hzs, updZ_s]
    · rw [if_neg hzs, updZ_n]
      · exact hg _ (by omega)
      · intro e
        exact hzs (tauZ_inj z0 z1 hs0 hs (by omega))
  · show -1 ≤ (if z = s then (0 : Int) else -1) ∧ (if z = s then (0 : Int) else -1) < 20000
    split <;> omega
  · show (if z = s then (0 : Int) else -1) = -1
    rw [if_neg (by omega)]
  · have hj : j < 1 := hj
    rw [show j = 0 by omega]
    exact updZ_s _ _ _
theorem MSOK_R {S : BS} {gl gq : Nat → Int} {a f : Int} (hS : MSOK S gl gq) (hc : a ≠ -1 ∧ S.2.1 a = -1) (ha0 : 0 ≤ a) (ha : a < 16807) (hf : 0 ≤ S.2.1 f) (hf2 : S.2.1 f < 19999) : MSOK (bsR S a f) (updZ gl (tauZ a).toNat (S.2.1 f + 1)) (updZ gq S.1.length (tauZ a)) := by
  obtain ⟨⟨h1, h2, h3⟩, h6⟩ := hS
  obtain ⟨p1, p2, p3⟩ := bsAt_push (f := f) hc
  have hat := tauZ_of ha0 ha
  refine ⟨⟨fun z z0 z1 => ?_, fun z => ?_, fun z hz => ?_⟩, fun j hj => ?_⟩
  · rw [(bsR_D hc z).1]
    have hz := tauZ_of z0 z1
    by_cases hza : z = a
    · rw [if_pos hza, hza, updZ_s]
    · rw [if_neg hza, updZ_n]
      · exact h1 z z0 z1
      · intro e
        exact hza (tauZ_inj z0 z1 ha0 ha (by omega))
  · rw [(bsR_D hc z).1]
    have := h2 z
    split <;> omega
  · rw [(bsR_D hc z).1, if_neg (by omega)]
    exact h3 z hz
  · by_cases hj2 : j < S.1.length
    · rw [p1 j hj2, updZ_n (by omega)]
      exact h6 j hj2
    · rw [show j = S.1.length by omega, p2, updZ_s]
/-- .. its parents and its queue -/
def MBOK (S : BS) (gb gq : Nat → Int) : Prop := (∀ z : Int, 0 ≤ z → z < 16807 → gb (tauZ z).toNat = if S.2.1 z = -1 then -1 else tauZ (S.2.2 z)) ∧ ∀ j : Nat, j < S.1.length → gq j = tauZ (bsAt S j)
theorem MBOK_0 {s : Int} {gb gq : Nat → Int} (hs0 : 0 ≤ s) (hs : s < 16807) (hg : ∀ k : Nat, (k : Int) < 16807 → gb k = -1) : MBOK (bs0 s) (updZ gb (tauZ s).toNat (tauZ s)) (updZ gq 0 (tauZ s)) := by
  have ht := tauZ_of hs0 hs
  refine ⟨fun z z0 z1 => ?_, fun j hj => ?_⟩
  · show updZ gb (tauZ s).toNat (tauZ s) (tauZ z).toNat = if (if z = s then (0 : Int) else -1) = -1 then -1 else tauZ s
    have hz := tauZ_of z0 z1
    by_cases hzs : z = s
    · rw [if_pos hzs, if_neg (by decide), hzs, updZ_s]
    · rw [if_neg hzs, if_pos rfl, updZ_n]
      · exact hg _ (by omega)
      · intro e
        exact hzs (tauZ_inj z0 z1 hs0 hs (by omega))
  · have hj : j < 1 := hj
    rw [show j = 0 by omega]
    exact updZ_s _ _ _
theorem MBOK_R {S : BS} {gb gq : Nat → Int} {a f : Int} (hS : MBOK S gb gq) (hc : a ≠ -1 ∧ S.2.1 a = -1) (ha0 : 0 ≤ a) (ha : a < 16807) (hf : 0 ≤ S.2.1 f) : MBOK (bsR S a f) (updZ gb (tauZ a).toNat (tauZ f)) (updZ gq S.1.length (tauZ a)) := by
  obtain ⟨h1, h6⟩ := hS
  obtain ⟨p1, p2, p3⟩ := bsAt_push (f := f) hc
  have hat := tauZ_of ha0 ha
  refine ⟨fun z z0 z1 => ?_, fun j hj => ?_⟩
  · rw [(bsR_D hc z).1, (bsR_D hc z).2]
    have hz := tauZ_of z0 z1
    by_cases hza : z = a
    · rw [if_pos hza, if_pos hza, if_neg (by omega), hza, updZ_s]
    · rw [if_neg hza, if_neg hza, updZ_n]
      · exact h1 z z0 z1
      · intro e
        exact hza (tauZ_inj z0 z1 ha0 ha (by omega))
  · by_cases hj2 : j < S.1.length
    · rw [p1 j hj2, updZ_n (by omega)]
      exact h6 j hj2
    · rw [show j = S.1.length by omega, p2, updZ_s]
theorem bsAt_K (nb : Int → Int → Int) (S : BS) (f : Int) (d : Nat) {i : Nat} (h : i < S.1.length) : i < (bsK nb S f d).1.length ∧ bsAt (bsK nb S f d) i = bsAt S i := by
  have h1 := bsK_at nb S f d i _ (bsAt_some h)
  have h2 := (List.getElem?_eq_some_iff.mp h1).1
  exact ⟨h2, Option.some.inj ((bsAt_some h2).symm.trans h1)⟩
end
