section
-- ===== PART A: goes FIRST, ahead of the names: the tables' words, and 'selects' of the private methods out of them =====
/-- a private method of a class that the tables say can be made, by its rows of tables_1 -/
def lw_okq (q : MethodName × Nat) : Prop := (q.1.cls ≠ "java/lang/invoke/MethodHandle" ∧ q.1.cls ≠ "java/lang/invoke/VarHandle") ∧ Cond.instantiable q.1.cls q.2 ∈ tables_1 ∧ Cond.privateMethod q.1 ∈ tables_1 ∧ Cond.instanceMethod q.1 ∈ tables_1
theorem lw_p0 : lw_okq (⟨"Tetherline", "measureLengths", "()V"⟩, 7) := ⟨⟨by decide +kernel, by decide +kernel⟩, List.mem_of_getElem? (i := 14) (by decide +kernel), List.mem_of_getElem? (i := 76) (by decide +kernel), List.mem_of_getElem? (i := 77) (by decide +kernel)⟩
theorem lw_p1 : lw_okq (⟨"Tetherline$Spread", "add", "(II)V"⟩, 3) := ⟨⟨by decide +kernel, by decide +kernel⟩, List.mem_of_getElem? (i := 22) (by decide +kernel), List.mem_of_getElem? (i := 85) (by decide +kernel), List.mem_of_getElem? (i := 86) (by decide +kernel)⟩
theorem lw_p2 : lw_okq (⟨"Tetherline$Floor", "placeAt", "(III)I"⟩, 4) := ⟨⟨by decide +kernel, by decide +kernel⟩, List.mem_of_getElem? (i := 39) (by decide +kernel), List.mem_of_getElem? (i := 113) (by decide +kernel), List.mem_of_getElem? (i := 114) (by decide +kernel)⟩
theorem lw_p3 : lw_okq (⟨"Tetherline$Floor", "pillarNumberOf", "(I)I"⟩, 4) := ⟨⟨by decide +kernel, by decide +kernel⟩, List.mem_of_getElem? (i := 39) (by decide +kernel), List.mem_of_getElem? (i := 126) (by decide +kernel), List.mem_of_getElem? (i := 127) (by decide +kernel)⟩
theorem lw_p4 : lw_okq (⟨"Tetherline$Floor", "wordToTheRight", "(III)I"⟩, 4) := ⟨⟨by decide +kernel, by decide +kernel⟩, List.mem_of_getElem? (i := 39) (by decide +kernel), List.mem_of_getElem? (i := 131) (by decide +kernel), List.mem_of_getElem? (i := 132) (by decide +kernel)⟩
theorem lw_p5 : lw_okq (⟨"Tetherline$Floor", "wordToTheLeft", "(III)I"⟩, 4) := ⟨⟨by decide +kernel, by decide +kernel⟩, List.mem_of_getElem? (i := 39) (by decide +kernel), List.mem_of_getElem? (i := 144) (by decide +kernel), List.mem_of_getElem? (i := 145) (by decide +kernel)⟩
theorem lw_p6 : lw_okq (⟨"java/lang/Throwable", "fillInStackTrace", "(I)Ljava/lang/Throwable;"⟩, 6) := ⟨⟨by decide +kernel, by decide +kernel⟩, List.mem_of_getElem? (i := 236) (by decide +kernel), List.mem_of_getElem? (i := 234) (by decide +kernel), List.mem_of_getElem? (i := 235) (by decide +kernel)⟩
theorem lw_p7 : lw_okq (⟨"Tetherline", "afterStep", "(II)I"⟩, 7) := ⟨⟨by decide +kernel, by decide +kernel⟩, List.mem_of_getElem? (i := 14) (by decide +kernel), List.mem_of_getElem? (i := 266) (by decide +kernel), List.mem_of_getElem? (i := 267) (by decide +kernel)⟩
theorem lw_p8 : lw_okq (⟨"Tetherline", "isWithinLimit", "(I)Z"⟩, 7) := ⟨⟨by decide +kernel, by decide +kernel⟩, List.mem_of_getElem? (i := 14) (by decide +kernel), List.mem_of_getElem? (i := 271) (by decide +kernel), List.mem_of_getElem? (i := 272) (by decide +kernel)⟩
theorem lw_p9 : lw_okq (⟨"Tetherline", "alongCable", "(I)I"⟩, 7) := ⟨⟨by decide +kernel, by decide +kernel⟩, List.mem_of_getElem? (i := 14) (by decide +kernel), List.mem_of_getElem? (i := 300) (by decide +kernel), List.mem_of_getElem? (i := 301) (by decide +kernel)⟩
theorem lw_p10 : lw_okq (⟨"Tetherline", "cableDirection", "(I)I"⟩, 7) := ⟨⟨by decide +kernel, by decide +kernel⟩, List.mem_of_getElem? (i := 14) (by decide +kernel), List.mem_of_getElem? (i := 304) (by decide +kernel), List.mem_of_getElem? (i := 305) (by decide +kernel)⟩
theorem lw_p11 : lw_okq (⟨"Tetherline", "requireSquare", "(II)V"⟩, 7) := ⟨⟨by decide +kernel, by decide +kernel⟩, List.mem_of_getElem? (i := 14) (by decide +kernel), List.mem_of_getElem? (i := 312) (by decide +kernel), List.mem_of_getElem? (i := 313) (by decide +kernel)⟩
theorem lw_p12 : lw_okq (⟨"Tetherline", "nearestPlaceOf", "(I)I"⟩, 7) := ⟨⟨by decide +kernel, by decide +kernel⟩, List.mem_of_getElem? (i := 14) (by decide +kernel), List.mem_of_getElem? (i := 356) (by decide +kernel), List.mem_of_getElem? (i := 357) (by decide +kernel)⟩
theorem lw_p13 : lw_okq (⟨"Tetherline", "leastLengthOf", "(I)I"⟩, 7) := ⟨⟨by decide +kernel, by decide +kernel⟩, List.mem_of_getElem? (i := 14) (by decide +kernel), List.mem_of_getElem? (i := 419) (by decide +kernel), List.mem_of_getElem? (i := 420) (by decide +kernel)⟩
def lw_privs_1 : List (MethodName × Nat) := [(⟨"Tetherline", "measureLengths", "()V"⟩, 7), (⟨"Tetherline$Spread", "add", "(II)V"⟩, 3), (⟨"Tetherline$Floor", "placeAt", "(III)I"⟩, 4), (⟨"Tetherline$Floor", "pillarNumberOf", "(I)I"⟩, 4), (⟨"Tetherline$Floor", "wordToTheRight", "(III)I"⟩, 4), (⟨"Tetherline$Floor", "wordToTheLeft", "(III)I"⟩, 4), (⟨"java/lang/Throwable", "fillInStackTrace", "(I)Ljava/lang/Throwable;"⟩, 6), (⟨"Tetherline", "afterStep", "(II)I"⟩, 7), (⟨"Tetherline", "isWithinLimit", "(I)Z"⟩, 7), (⟨"Tetherline", "alongCable", "(I)I"⟩, 7), (⟨"Tetherline", "cableDirection", "(I)I"⟩, 7), (⟨"Tetherline", "requireSquare", "(II)V"⟩, 7), (⟨"Tetherline", "nearestPlaceOf", "(I)I"⟩, 7), (⟨"Tetherline", "leastLengthOf", "(I)I"⟩, 7)]
theorem lw_r1 : ∀ q ∈ lw_privs_1, lw_okq q := List.forall_mem_cons.mpr ⟨lw_p0, List.forall_mem_cons.mpr ⟨lw_p1, List.forall_mem_cons.mpr ⟨lw_p2, List.forall_mem_cons.mpr ⟨lw_p3, List.forall_mem_cons.mpr ⟨lw_p4, List.forall_mem_cons.mpr ⟨lw_p5, List.forall_mem_cons.mpr ⟨lw_p6, List.forall_mem_cons.mpr ⟨lw_p7, List.forall_mem_cons.mpr ⟨lw_p8, List.forall_mem_cons.mpr ⟨lw_p9, List.forall_mem_cons.mpr ⟨lw_p10, List.forall_mem_cons.mpr ⟨lw_p11, List.forall_mem_cons.mpr ⟨lw_p12, List.forall_mem_cons.mpr ⟨lw_p13, fun _ h => absurd h List.not_mem_nil⟩⟩⟩⟩⟩⟩⟩⟩⟩⟩⟩⟩⟩⟩
def lw_privs : List (MethodName × Nat) := lw_privs_1
def lw_tbl : List Cond := k2_sels lw_privs ++ tables_1
theorem lw_privs_ok : ∀ q ∈ lw_privs, lw_okq q := lw_r1
end
section
/-! ===== BEGIN words of one list among another's, by their places ===== -/
theorem goodIn_r {big : List Cond} (ws : List Cond) (ps : List Nat) (hp : ws = ps.filterMap (fun i => big[i]?)) (h : ws.all goodWord = true) : GoodIn big ws := by
  intro w hw
  have h1 := List.all_eq_true.mp h w hw
  rw [hp] at hw
  obtain ⟨i, -, hi⟩ := List.mem_filterMap.mp hw
  have hm : w ∈ big := by first | exact List.mem_of_getElem? hi | exact List.getElem?_mem hi
  exact ⟨hm, good_of_word h1⟩
theorem goodIn_app {big a b : List Cond} (ha : GoodIn big a) (hb : GoodIn big b) : GoodIn big (a ++ b) := fun w h => (List.mem_append.mp h).elim (ha w) (hb w)
theorem goodIn_ca {big a b : List Cond} {c : Cond} (ha : GoodIn big (c :: a)) (hb : GoodIn big b) : GoodIn big (c :: (a ++ b)) := fun w h => (List.mem_cons.mp h).elim (fun e => ha w (List.mem_cons.mpr (Or.inl e))) (fun h => (List.mem_append.mp h).elim (fun h => ha w (List.mem_cons.mpr (Or.inr h))) (hb w))
theorem goodIn_sub {big ws : List Cond} (hm : ∀ w ∈ ws, w ∈ big) (h : ws.all goodWord = true) : GoodIn big ws := fun w hw => ⟨hm w hw, good_of_word (List.all_eq_true.mp h w hw)⟩
/-! ===== END ===== -/

/-! ===== BEGIN exceptions that leave a method, and their catching by the caller (launches without stack traces) ===== -/
section VXA
/-! The laws vx_back, vx_callV, vx_callS, vx_callSW, vx_throw0, vx_throwS follow proofs of the library, with one case more: JvmDerived/Free/Laws.lean (Back.of_free), Shelf42/LK1.lean (callV, callS), Shelf/KitTraced.lean (throwNew0V, throwNewS). -/
/-- where a method has thrown q: the class by its name, the cell, what was written, the world -/
def vx_T (XC : String → State → State → Prop) (st : State) (q : Addr) (t : State) (mc ms : Nat) (free : Addr → Prop) : Prop :=
  ∃ (E : String) (ce : Cell) (L : List Loc), XC E st t ∧ t.heap[q]? = some ce ∧ ce.vm = .none ∧ st.vm.findClass E = some ce.cls ∧ st.WarmedH t.vm ∧ st.sameButNew ({ t with vm := st.vm } : State) L mc ms ∧ ∀ z ∈ L, free z.base
def vx_Q (Qc : Array Value → State → Outcome → State → Prop) (XC : String → State → State → Prop) (mc ms : Nat) (free : Addr → Prop) : Array Value → State → Outcome → State → Prop := fun a st o t =>
  (Qc a st o t ∧ ∃ L, FrameEnd st o t L mc ms ∧ ∀ q ∈ L, free q.base) ∨ ∃ q, o = .threw q ∧ vx_T XC st q t mc ms free
/-- a callee that returns or throws -/
def vx_Met (l : Launch) (y : MethodName) (ws : List Cond) (rm : Room) (Pc : Array Value → State → Prop) (Qc : Array Value → State → Outcome → State → Prop) (XC : String → State → State → Prop) (mc ms : Nat) (free : Addr → Prop) : Prop :=
  MetFree l y (headSpec ws rm) Pc (fun _ _ _ _ _ => True) (vx_Q Qc XC mc ms free)
def vx_Post (XC : String → State → State → Prop) (mc ms : Nat) (free : Addr → Prop) : Pt → Array Value → Addr → Pt → Prop := fun A a q B =>
  ∃ (g : JFrame) (mk : MethodId) (t : State) (L : List Loc) (E : String) (ce : Cell), B.U.heap = t.heap ∧ B.U.vm = t.vm ∧ XC E (A.U.calling g mk a) t ∧ t.heap[q]? = some ce ∧ ce.vm = .none ∧ A.U.vm.findClass E = some ce.cls ∧ B.locs = A.locs ++ L ∧ (∀ z ∈ L, free z.base) ∧ B.cells = A.cells + mc ∧ B.slots = A.slots + ms
def vx_Back (l : Launch) (R : Room) (p : Program) (e : Env) (below : List Frame) (s : State) (sargs : Array Value) (y : MethodName) (len W9 : Nat)
    (Pre : Pt → Array Value → Prop) (Post : Pt → Array Value → Option Value → Pt → Prop) (PostX : Pt → Array Value → Addr → Pt → Prop) : Prop :=
  ∀ (m : MethodId) (meth : Method) (c : Code) (A : Pt) (g : JFrame) (ig : Instr) (mk : MethodId) (a : Array Value),
    Stand p l e R s m sargs below meth c A.U A.locs A.cells A.slots → g.method = m → g.locals.size = c.maxLocals → decode c.code g.pc = .ok (ig, len) →
    2 * g.monitorRoom + (g.stack.map fun v => v.category).sum ≤ W9 → A.U.methodNamed? y = some mk → Pre A a →
    (∃ (v : Option Value) (B : Pt), Stand p l e R s m sargs below meth c B.U B.locs B.cells B.slots ∧ Post A a v B ∧
      Steps p.tables e below (doInvoke e (A.U.setTop g) [] mk a).1 (B.U.setTop { g with pc := g.pc + len, stack := v.toList ++ g.stack })) ∨
    (∃ (q : Addr) (B : Pt), Stand p l e R s m sargs below meth c B.U B.locs B.cells B.slots ∧ PostX A a q B ∧
      Steps p.tables e below (doInvoke e (A.U.setTop g) [] mk a).1 ((B.U.setTop g).pushFrame (.throwing q)))
section Payer
variable {l : Launch} {R : Room} {p : Program} {e : Env} {below : List Frame} {s : State} {sargs : Array Value} {y : MethodName} {len W9 : Nat}
theorem vx_back {ws : List Cond} {rm : Room} {Pc : Array Value → State → Prop} {Qc : Array Value → State → Outcome → State → Prop} {XC : String → State → State → Prop} {mc ms : Nat} {free : Addr → Prop} {bytes : ByteArray} {maxL : Nat} {ret : Option FieldType}
    (hM : vx_Met l y ws rm Pc Qc XC mc ms free) (hblind : FrameBlind Pc) (hrc : rm.cells = mc) (hrs : rm.slots = ms)
    (hframes : rm.frames + 1 ≤ R.frames) (hlocals : W9 + (maxL + 11) + rm.locals ≤ R.locals)
    (hws : ∀ w ∈ ws, ∀ a' U, s.WarmedH U.vm → w.before a' U = true) (hcode : Cond.code y bytes maxL ret ∈ ws) (hinit : ∀ a' U, s.WarmedH U.vm → (Cond.initialized y.cls).before a' U = true) :
    vx_Back l R p e below s sargs y len W9 (PreOf R mc ms Pc) (PostOf Qc mc ms free) (vx_Post XC mc ms free) := by
  intro m meth c A g ig mk a X hg hsize hdg hW hn hp
  have h1 : (headSpec ws rm).pre.before a A.U = true := atoms_intro fun w hw => hws w hw _ _ X.warmed
  have h2 : (Cond.code y bytes maxL ret).before a A.U = true := hws _ hcode _ _ X.warmed
  have h3 : (Cond.initialized y.cls).before a A.U = true := hinit _ _ X.warmed
  have h4 : A.cells + (headSpec ws rm).room.cells ≤ R.cells := by rw [show (headSpec ws rm).room.cells = mc from hrc]; exact hp.1
  have h5 : A.slots + (headSpec ws rm).room.slots ≤ R.slots := by rw [show (headSpec ws rm).room.slots = ms from hrs]; exact hp.2.1
  have hPc : Pc a (A.U.calling g mk a) := hblind _ _ _ _ hp.2.2
  obtain ⟨U, Ls, c0, s0⟩ := A
  dsimp only [Pt.U, Pt.locs, Pt.cells, Pt.slots] at h1 h2 h3 h4 h5 X hn hPc ⊢
  obtain ⟨methY, cY, hmY, hcY, -, hlY, -, -, -, -⟩ := Cond.code_spec hn h2
  obtain ⟨kY, hkY, -⟩ := className_of_methodNamed hn
  have hinitY : kY.init = .initialized := Cond.initialized_spec (findClass_of_methodNamed hn) hkY h3
  have h : At U g.method c below := by rw [hg]; exact X.here
  have hlocals9 : W9 + (maxL + 11) + (headSpec ws rm).room.locals ≤ R.locals := hlocals
  have happ : (headSpec ws rm).appliesLoose y e.platform (U.calling g mk a) = true :=
    Spec.appliesLoose_calling (g := g) h hdg hn hkY hinitY
      (X.room_calling (g := g) (R' := (headSpec ws rm).room) hsize hmY hcY hframes (by rw [hlY]; omega) h4 h5) h1
  obtain ⟨mid, hmid⟩ := h.above
  have hfr : (U.setTop g).frames = (.java g :: mid) ++ below := by rw [State.frames_setTop' g h.top, hmid]; rfl
  obtain ⟨o, s₂, hsteps, -, hend, hq⟩ := Steps.callFree hM p X.admits X.cas X.clock (acts := []) hfr happ hPc trivial
  have hq' : vx_Q Qc XC mc ms free a (U.calling g mk a) o s₂ := hq
  rw [State.frames_setTop' g h.top] at hend
  obtain ⟨g₀, hg0⟩ := Option.isSome_iff_exists.mp h.top
  obtain ⟨r, hr⟩ := State.topJava?_eq_some.mp hg0
  have hr' : (({ U with heap := s₂.heap, slotsUsed := s₂.slotsUsed } : State).setVm s₂.vm).frames = .java g₀ :: r := hr
  rcases hq' with ⟨hqc, L, hfe, hL⟩ | ⟨q, rfl, E, ce, L, hx, hce, hcv, hcl, hW₂, hsm, hL⟩
  · obtain ⟨⟨v, rfl⟩, hW₂, e2, q2, q3, q4, q5, q6⟩ := id hfe
    have e3 : s₂ = ({ (U.calling g mk a).setFrames s₂.frames with heap := s₂.heap, slotsUsed := s₂.slotsUsed } : State).setVm s₂.vm := by
      have : s₂ = ({ s₂ with vm := (U.calling g mk a).vm } : State).setVm s₂.vm := rfl
      rw [e2] at this
      exact this
    obtain ⟨c₂, i₂, len₂, hc₂, hd₂, hf₂⟩ := hend
    have hW' : U.WarmedH s₂.vm := hW₂
    have hcc : c₂ = c := by
      have h1 : s₂.code? g.method = U.code? g.method := by
        rw [State.code?_eq, State.code?_eq, hW'.alike.method?]
      exact Option.some.inj (hc₂.symm.trans (h1.trans h.code))
    subst hcc
    have hlen : len₂ = len := by rw [hdg] at hd₂; cases hd₂; rfl
    subst hlen
    have hs₂ : s₂ = (({ U with heap := s₂.heap, slotsUsed := s₂.slotsUsed } : State).setVm s₂.vm).setTop { g with pc := g.pc + len₂, stack := v.toList ++ g.stack } := by
      refine e3.trans ?_
      rw [hf₂, State.calling_eq h.top, State.setFrames_setFrames, State.setTop_of_frames _ hr', hr]
      rfl
    have hsame : U.sameButNew ({ U with heap := s₂.heap, slotsUsed := s₂.slotsUsed } : State) L mc ms := by
      refine ⟨?_, q2, q3, q4, q5, q6⟩
      obtain ⟨t, ht, -⟩ := State.frames_cons hr
      show ({ U with heap := s₂.heap, slotsUsed := s₂.slotsUsed } : State) = { U.setFrames U.frames with heap := s₂.heap, slotsUsed := s₂.slotsUsed }
      rw [State.setFrames_self ht]
    subst hg
    refine Or.inl ⟨v, ⟨(({ U with heap := s₂.heap, slotsUsed := s₂.slotsUsed } : State).setVm s₂.vm), Ls ++ L, c0 + mc, s0 + ms⟩,
      ⟨X.admits, X.cas, X.clock, X.frames, X.room, X.hears, X.method, X.code, (X.here.setHeapUsed s₂.heap s₂.slotsUsed).setVm hW'.alike, X.tail, State.WarmedH.trans X.warmed hW', X.limits, X.bytes, X.same.trans (hsame.setVm s.vm)⟩,
      ⟨g, mk, s₂, L, rfl, rfl, hqc, rfl, hL, rfl, rfl⟩, ?_⟩
    show Steps p.tables e below _ ((({ U with heap := s₂.heap, slotsUsed := s₂.slotsUsed } : State).setVm s₂.vm).setTop { g with pc := g.pc + len₂, stack := v.toList ++ g.stack })
    rw [← hs₂]
    exact hsteps
  · obtain ⟨e2, q2, q3, q4, q5, q6⟩ := id hsm
    have e3 : s₂ = ({ (U.calling g mk a).setFrames s₂.frames with heap := s₂.heap, slotsUsed := s₂.slotsUsed } : State).setVm s₂.vm := by
      have : s₂ = ({ s₂ with vm := (U.calling g mk a).vm } : State).setVm s₂.vm := rfl
      rw [e2] at this
      exact this
    have hf₂ : s₂.frames = .throwing q :: .java g :: U.frames.tail := hend
    have hW' : U.WarmedH s₂.vm := hW₂
    have hs₂ : s₂ = ((({ U with heap := s₂.heap, slotsUsed := s₂.slotsUsed } : State).setVm s₂.vm).setTop g).pushFrame (.throwing q) := by
      refine e3.trans ?_
      rw [hf₂, State.calling_eq h.top, State.setFrames_setFrames, State.pushFrame, State.frames_setTop _ hr', State.setTop_of_frames _ hr', State.setFrames_setFrames, hr]
      rfl
    have hsame : U.sameButNew ({ U with heap := s₂.heap, slotsUsed := s₂.slotsUsed } : State) L mc ms := by
      refine ⟨?_, q2, q3, q4, q5, q6⟩
      obtain ⟨t, ht, -⟩ := State.frames_cons hr
      show ({ U with heap := s₂.heap, slotsUsed := s₂.slotsUsed } : State) = { U.setFrames U.frames with heap := s₂.heap, slotsUsed := s₂.slotsUsed }
      rw [State.setFrames_self ht]
    subst hg
    refine Or.inr ⟨q, ⟨(({ U with heap := s₂.heap, slotsUsed := s₂.slotsUsed } : State).setVm s₂.vm), Ls ++ L, c0 + mc, s0 + ms⟩,
      ⟨X.admits, X.cas, X.clock, X.frames, X.room, X.hears, X.method, X.code, (X.here.setHeapUsed s₂.heap s₂.slotsUsed).setVm hW'.alike, X.tail, State.WarmedH.trans X.warmed hW', X.limits, X.bytes, X.same.trans (hsame.setVm s.vm)⟩,
      ⟨g, mk, s₂, L, E, ce, rfl, rfl, hx, hce, hcv, hcl, rfl, hL, rfl, rfl⟩, ?_⟩
    show Steps p.tables e below _ (((({ U with heap := s₂.heap, slotsUsed := s₂.slotsUsed } : State).setVm s₂.vm).setTop g).pushFrame (.throwing q))
    rw [← hs₂]
    exact hsteps
end Payer
section Calls
variable {p : Program} {l : Launch} {e : Env} {R : Room} {s : State} {m : MethodId} {args : Array Value} {below : List Frame} {meth : Method} {c : Code} {T : State} {locs : List Loc} {cells slots : Nat}
theorem vx_callV (X : Stand p l e R s m args below meth c T locs cells slots) (hexec : p.tables.exec = Jvm.exec) {own C : String} {index : Nat} {y : MethodName} {bytes : ByteArray} {maxL : Nat} {ret : Option FieldType}
    (hown : s.vm.findClass own = some m.cls) (hlink : (Cond.methodLink own index y).before args s = true) (hinst : (Cond.instanceMethod y).before args s = true) (hsel : (Cond.selects C y y).before args s = true)
    (hcode : (Cond.code y bytes maxL ret).before args s = true) (hy : y.cls ≠ "java/lang/invoke/MethodHandle" ∧ y.cls ≠ "java/lang/invoke/VarHandle")
    {W9 : Nat} {Pre : Pt → Array Value → Prop} {Post : Pt → Array Value → Option Value → Pt → Prop} {PostX : Pt → Array Value → Addr → Pt → Prop} (hK : vx_Back l R p e below s args y 3 W9 Pre Post PostX)
    {b : Addr} {cellB : Cell} (hcell : T.heap[b]? = some cellB) (hobj : cellB.vm.isStatics = false) (hcls : s.vm.findClass C = some cellB.cls)
    {g : JFrame} (hg : g.method = m) (hsize : g.locals.size = c.maxLocals) {argsL rest : List Value} (hlen : ∀ sig, parseMethodDescriptor y.desc = some sig → argsL.length = sig.parameters.length)
    (hstack : g.stack = argsL.reverse ++ .ref b :: rest) (hW : 2 * g.monitorRoom + (rest.map fun v => v.category).sum ≤ W9) (hdg : decode c.code g.pc = .ok (.invokevirtual index, 3))
    (hpre : ∀ vm₁, s.WarmedH vm₁ → Pre ⟨T.setVm vm₁, locs, cells, slots⟩ (Value.ref b :: argsL).toArray) :
    (∃ (v : Option Value) (vm₁ : Vm) (B : Pt), s.WarmedH vm₁ ∧ Stand p l e R s m args below meth c B.U B.locs B.cells B.slots ∧ Post ⟨T.setVm vm₁, locs, cells, slots⟩ (Value.ref b :: argsL).toArray v B ∧
      ∀ target, Steps p.tables e below (B.U.setTop { g with pc := g.pc + 3, stack := v.toList ++ rest }) target → Steps p.tables e below (T.setTop g) target) ∨
    (∃ (q : Addr) (vm₁ : Vm) (B : Pt), s.WarmedH vm₁ ∧ Stand p l e R s m args below meth c B.U B.locs B.cells B.slots ∧ PostX ⟨T.setVm vm₁, locs, cells, slots⟩ (Value.ref b :: argsL).toArray q B ∧
      Steps p.tables e below (T.setTop g) ((B.U.setTop { g with stack := rest }).pushFrame (.throwing q))) := by
  obtain ⟨mk, methM, hnamed, hmethM, hstM, habM⟩ := Cond.instanceMethod_spec hinst
  obtain ⟨methM', cM, hmethM', -, -, -, -, -, -, hsigM⟩ := Cond.code_spec hnamed hcode
  cases hmethM.symm.trans hmethM'
  obtain ⟨c2, r2, m2, q1, q2, q3, q4, kP, hkP, hkPi⟩ := Cond.selects_spec hsel
  cases hcls.symm.trans q1
  cases (State.methodFound?_of_named hnamed hy).symm.trans q2
  cases hnamed.symm.trans q3
  have hselP : selectMethod e.platform s.vm cellB.cls mk = .method mk := by rw [Launch.admits_selectMethod X.admits]; exact q4
  obtain ⟨vm₁, X₁, hstep₁⟩ := X.invokevirtual hexec hown hlink hnamed hmethM hstM hkP hkPi hy (a := b) (cell := cellB) hcell
    (fun z h => by rw [h] at hobj; cases hobj) hselP hmethM habM hkP hkPi (g := g) hg (argsL := argsL) (rest := rest) (hlen _ hsigM) hstack hdg
  rcases hK m meth c ⟨T.setVm vm₁, locs, cells, slots⟩ { g with stack := rest } (.invokevirtual index) mk (Value.ref b :: argsL).toArray X₁ hg hsize hdg hW (X₁.named hnamed) (hpre vm₁ X₁.warmed) with ⟨v, B, X', hpost, hsteps⟩ | ⟨q, B, X', hpost, hsteps⟩
  · exact Or.inl ⟨v, vm₁, B, X₁.warmed, X', hpost, fun target h => hstep₁ _ fun acts => by rw [doInvoke_state]; exact hsteps.trans h⟩
  · exact Or.inr ⟨q, vm₁, B, X₁.warmed, X', hpost, hstep₁ _ fun acts => by rw [doInvoke_state]; exact hsteps⟩
theorem vx_callS (X : Stand p l e R s m args below meth c T locs cells slots) (hexec : p.tables.exec = Jvm.exec) {own : String} {index : Nat} {y : MethodName} {bytes : ByteArray} {maxL : Nat} {ret : Option FieldType}
    (hown : s.vm.findClass own = some m.cls) (hlink : (Cond.methodLink own index y).before args s = true) (hstat : (Cond.static y).before args s = true) (hinit : (Cond.initialized y.cls).before args s = true)
    (hcode : (Cond.code y bytes maxL ret).before args s = true) (hy : y.cls ≠ "java/lang/invoke/MethodHandle" ∧ y.cls ≠ "java/lang/invoke/VarHandle")
    {W9 : Nat} {Pre : Pt → Array Value → Prop} {Post : Pt → Array Value → Option Value → Pt → Prop} {PostX : Pt → Array Value → Addr → Pt → Prop} (hK : vx_Back l R p e below s args y 3 W9 Pre Post PostX)
    {g : JFrame} (hg : g.method = m) (hsize : g.locals.size = c.maxLocals) {argsL rest : List Value} (hlen : ∀ sig, parseMethodDescriptor y.desc = some sig → argsL.length = sig.parameters.length)
    (hstack : g.stack = argsL.reverse ++ rest) (hW : 2 * g.monitorRoom + (rest.map fun v => v.category).sum ≤ W9) (hdg : decode c.code g.pc = .ok (.invokestatic index, 3))
    (hpre : ∀ vm₁, s.WarmedH vm₁ → Pre ⟨T.setVm vm₁, locs, cells, slots⟩ argsL.toArray) :
    (∃ (v : Option Value) (vm₁ : Vm) (B : Pt), s.WarmedH vm₁ ∧ Stand p l e R s m args below meth c B.U B.locs B.cells B.slots ∧ Post ⟨T.setVm vm₁, locs, cells, slots⟩ argsL.toArray v B ∧
      ∀ target, Steps p.tables e below (B.U.setTop { g with pc := g.pc + 3, stack := v.toList ++ rest }) target → Steps p.tables e below (T.setTop g) target) ∨
    (∃ (q : Addr) (vm₁ : Vm) (B : Pt), s.WarmedH vm₁ ∧ Stand p l e R s m args below meth c B.U B.locs B.cells B.slots ∧ PostX ⟨T.setVm vm₁, locs, cells, slots⟩ argsL.toArray q B ∧
      Steps p.tables e below (T.setTop g) ((B.U.setTop { g with stack := rest }).pushFrame (.throwing q))) := by
  obtain ⟨mk, hnamed⟩ := Cond.code_named hcode
  obtain ⟨methM, cM, hmethM, -, -, -, -, -, -, hsigM⟩ := Cond.code_spec hnamed hcode
  have hstatic : methM.isStatic = true := Cond.static_spec hnamed hmethM hstat
  obtain ⟨kP, hkP, -⟩ := className_of_methodNamed hnamed
  have hinitP : kP.init = .initialized := Cond.initialized_spec (findClass_of_methodNamed hnamed) hkP hinit
  obtain ⟨vm₁, X₁, hstep₁⟩ := X.invokestatic hexec hown hlink hnamed hmethM hstatic hkP hinitP hy (g := g) hg (argsL := argsL) (rest := rest) (hlen _ hsigM) hstack hdg
  rcases hK m meth c ⟨T.setVm vm₁, locs, cells, slots⟩ { g with stack := rest } (.invokestatic index) mk argsL.toArray X₁ hg hsize hdg hW (X₁.named hnamed) (hpre vm₁ X₁.warmed) with ⟨v, B, X', hpost, hsteps⟩ | ⟨q, B, X', hpost, hsteps⟩
  · exact Or.inl ⟨v, vm₁, B, X₁.warmed, X', hpost, fun target h => hstep₁ _ fun acts => by rw [doInvoke_state]; exact hsteps.trans h⟩
  · exact Or.inr ⟨q, vm₁, B, X₁.warmed, X', hpost, hstep₁ _ fun acts => by rw [doInvoke_state]; exact hsteps⟩
end Calls
theorem vx_cls {s : State} {T : State} {vm₁ : Vm} {E : String} {k : ClassId} (hW : s.WarmedH vm₁) (h : (T.setVm vm₁).vm.findClass E = some k) : s.vm.findClass E = some k := by
  have h1 : vm₁.findClass E = some k := h
  rw [hW.alike.findClass] at h1
  exact h1
/-- the method's frame g, with q thrown over it -/
def vx_W (p : Program) (l : Launch) (e : Env) (R : Room) (s : State) (m : MethodId) (args : Array Value) (below : List Frame) (meth : Method) (c : Code) (H : Heap) (locs : List Loc) (cells slots : Nat) (Q : State → Prop) (g : JFrame) (q : Addr) : Prop :=
  ∀ T : State, T.heap = H → Stand p l e R s m args below meth c T locs cells slots → ∃ t, Steps p.tables e below ((T.setTop g).pushFrame (.throwing q)) t ∧ Q t
def vx_Run (p : Program) (l : Launch) (e : Env) (R : Room) (s : State) (m : MethodId) (args : Array Value) (below : List Frame) (meth : Method) (c : Code) (H : Heap) (locs : List Loc) (cells slots mc ms : Nat) (g : JFrame) (rest : List Value) (Qa : State → Outcome → State → Prop) (XC : String → State → State → Prop) (free : Addr → Prop) : Prop :=
  ∀ T : State, T.heap = H → Stand p l e R s m args below meth c T locs cells slots →
    (∃ (v : Option Value) (st₀ t T' : State) (L : List Loc), st₀.heap = H ∧ Stand p l e R s m args below meth c T' (locs ++ L) (cells + mc) (slots + ms) ∧ (∀ q ∈ L, free q.base) ∧ T'.heap = t.heap ∧ T'.vm = t.vm ∧ Qa st₀ (.returned v) t ∧
      Goes p e below T g T' { g with pc := g.pc + 3, stack := v.toList ++ rest }) ∨
    (∃ (q : Addr) (st₀ t T' : State) (L : List Loc) (E : String) (ce : Cell), st₀.heap = H ∧ Stand p l e R s m args below meth c T' (locs ++ L) (cells + mc) (slots + ms) ∧ (∀ z ∈ L, free z.base) ∧ T'.heap = t.heap ∧ T'.vm = t.vm ∧ XC E st₀ t ∧ t.heap[q]? = some ce ∧ ce.vm = .none ∧ s.vm.findClass E = some ce.cls ∧
      Steps p.tables e below (T.setTop g) ((T'.setTop { g with stack := rest }).pushFrame (.throwing q)))
def vx_X {S : Type} (px : S → Prop) (B : String → S → State → Prop) (A : Nat → Prop) : String → State → State → Prop := fun E st t => ∃ u : S, px u ∧ B E u t ∧ va_F A st t
section Runs
variable {p : Program} {l : Launch} {e : Env} {R : Room} {s : State} {m : MethodId} {args : Array Value} {below : List Frame} {meth : Method} {c : Code} {H : Heap} {locs : List Loc} {cells slots : Nat}
variable {y : MethodName} {bytes cc : ByteArray} {maxL nL mc ms n index : Nat} {ret : Option FieldType} {ws : List Cond} {rm : Room} {Pc : Array Value → State → Prop} {Qc : Array Value → State → Outcome → State → Prop} {XC : String → State → State → Prop} {free : Addr → Prop} {Ts : List Cond} {own C : String} {b : Addr} {As rest : List Value} {g : JFrame}
theorem vx_callBack (cb : CallB R s args own index y bytes maxL ret ws rm mc ms n) (hM : vx_Met l y ws rm Pc Qc XC mc ms free) (hbl : FrameBlind Pc) : vx_Back l R p e below s args y 3 8 (PreOf R mc ms Pc) (PostOf Qc mc ms free) (vx_Post XC mc ms free) := by
  obtain ⟨hrc, hrs, hfr, hlo, hws, hcw, -, hini, -⟩ := cb
  exact vx_back (bytes := bytes) (maxL := maxL) (ret := ret) hM hbl hrc hrs hfr hlo hws hcw (fun a' U hW => word_at hW (Or.inl (by first | rfl | simp [Cond.onTables, Cond.keeps, Cond.steady])) hini)
theorem vx_runV (S : CallFix p m c cc nL s args Ts own) (hM : vx_Met l y ws rm Pc Qc XC mc ms free) (cw : CallW R s args own C index y bytes maxL ret ws rm mc ms n) (hp : PreV s H C b Pc As)
    (hg : g.method = m) (hn : As.length = n) (hsize : g.locals.size = nL) (hstack : g.stack = As.reverse ++ .ref b :: rest) (hW : 2 * g.monitorRoom + (rest.map fun v => v.category).sum ≤ 8) (hdg : decode cc g.pc = .ok (.invokevirtual index, 3)) (hf : cells + mc ≤ R.cells ∧ slots + ms ≤ R.slots) :
    vx_Run p l e R s m args below meth c H locs cells slots mc ms g rest (Qc (Value.ref b :: As).toArray) XC free := by
  have hK : vx_Back l R p e below s args y 3 8 (PreOf R mc ms Pc) (PostOf Qc mc ms free) (vx_Post XC mc ms free) := vx_callBack cw.1 hM hp.1
  obtain ⟨⟨-, -, -, -, -, -, hcode, -, hy, hlen, hl⟩, hin, hse⟩ := cw
  obtain ⟨hx, hb, hml, ho, -⟩ := S
  obtain ⟨-, ⟨cellB, hcB, hoB, hclB⟩, hPc⟩ := hp
  intro T hT X
  rcases vx_callV X hx (C := C) (bytes := bytes) (maxL := maxL) (ret := ret) ho hl hin hse hcode hy hK (by rw [hT]; exact hcB) hoB hclB hg (hsize.trans hml.symm) (argsL := As) (rest := rest) (fun sig h => hn.trans (hlen sig h)) hstack hW (by rw [hb]; exact hdg)
    (fun vm₁ hW₁ => ⟨hf.1, hf.2, hPc (T.setVm vm₁) hT hW₁⟩) with ⟨v, vm₁, ⟨U', l2, c2, s2⟩, hW₁, X', ⟨g', mk, t, L, e1, e2, hq, h1, hL, h2, h3⟩, st⟩ | ⟨q, vm₁, ⟨U', l2, c2, s2⟩, hW₁, X', ⟨g', mk, t, L, E, ce, e1, e2, hq, hce, hcv, hcl, h1, hL, h2, h3⟩, st⟩
  · dsimp only [Pt.U, Pt.locs, Pt.cells, Pt.slots] at X' e1 e2 h1 h2 h3 st
    subst h1; subst h2; subst h3
    exact Or.inl ⟨v, (T.setVm vm₁).calling g' mk (Value.ref b :: As).toArray, t, U', L, hT, X', hL, e1, e2, hq, st⟩
  · dsimp only [Pt.U, Pt.locs, Pt.cells, Pt.slots] at X' e1 e2 h1 h2 h3 st hcl
    subst h1; subst h2; subst h3
    exact Or.inr ⟨q, (T.setVm vm₁).calling g' mk (Value.ref b :: As).toArray, t, U', L, E, ce, hT, X', hL, e1, e2, hq, hce, hcv, vx_cls hW₁ hcl, st⟩
theorem vx_runS (S : CallFix p m c cc nL s args Ts own) (hM : vx_Met l y ws rm Pc Qc XC mc ms free) (cw : CallB R s args own index y bytes maxL ret ws rm mc ms n ∧ (Cond.static y).before args s = true) (hp : PreS s H Pc As)
    (hg : g.method = m) (hn : As.length = n) (hsize : g.locals.size = nL) (hstack : g.stack = As.reverse ++ rest) (hW : 2 * g.monitorRoom + (rest.map fun v => v.category).sum ≤ 8) (hdg : decode cc g.pc = .ok (.invokestatic index, 3)) (hf : cells + mc ≤ R.cells ∧ slots + ms ≤ R.slots) :
    vx_Run p l e R s m args below meth c H locs cells slots mc ms g rest (Qc As.toArray) XC free := by
  have hK : vx_Back l R p e below s args y 3 8 (PreOf R mc ms Pc) (PostOf Qc mc ms free) (vx_Post XC mc ms free) := vx_callBack cw.1 hM hp.1
  obtain ⟨⟨-, -, -, -, -, -, hcode, hini, hy, hlen, hl⟩, hstt⟩ := cw
  obtain ⟨hx, hb, hml, ho, -⟩ := S
  intro T hT X
  rcases vx_callS X hx (bytes := bytes) (maxL := maxL) (ret := ret) ho hl hstt hini hcode hy hK hg (hsize.trans hml.symm) (argsL := As) (rest := rest) (fun sig h => hn.trans (hlen sig h)) hstack hW (by rw [hb]; exact hdg)
    (fun vm₁ hW₁ => ⟨hf.1, hf.2, hp.2 (T.setVm vm₁) hT hW₁⟩) with ⟨v, vm₁, ⟨U', l2, c2, s2⟩, hW₁, X', ⟨g', mk, t, L, e1, e2, hq, h1, hL, h2, h3⟩, st⟩ | ⟨q, vm₁, ⟨U', l2, c2, s2⟩, hW₁, X', ⟨g', mk, t, L, E, ce, e1, e2, hq, hce, hcv, hcl, h1, hL, h2, h3⟩, st⟩
  · dsimp only [Pt.U, Pt.locs, Pt.cells, Pt.slots] at X' e1 e2 h1 h2 h3 st
    subst h1; subst h2; subst h3
    exact Or.inl ⟨v, (T.setVm vm₁).calling g' mk As.toArray, t, U', L, hT, X', hL, e1, e2, hq, st⟩
  · dsimp only [Pt.U, Pt.locs, Pt.cells, Pt.slots] at X' e1 e2 h1 h2 h3 st hcl
    subst h1; subst h2; subst h3
    exact Or.inr ⟨q, (T.setVm vm₁).calling g' mk As.toArray, t, U', L, E, ce, hT, X', hL, e1, e2, hq, hce, hcv, vx_cls hW₁ hcl, st⟩
end Runs
section Rows
variable {p : Program} {l : Launch} {e : Env} {R : Room} {s : State} {m : MethodId} {args : Array Value} {below : List Frame} {meth : Method} {c : Code} {H : Heap} {locs : List Loc} {cells slots : Nat} {Q : State → Prop}
variable {mc ms : Nat} {free : Addr → Prop} {A0 A1 : Nat → Prop} {H0 : Heap} {a : Array Value} {pc : Nat} {ls : Array Slot} {st0 rest : List Value}
theorem vx_keep {st₀ t T' : State} {L : List Loc} (h0 : st₀.heap = H) (e1 : T'.heap = t.heap) (hS : va_S A0 H0 H locs) (hA : ∀ q, q < H.size → A1 q → A0 q) (hf : ∀ q, free q → A0 q) (hL : ∀ q ∈ L, free q.base) (hF : va_F A1 st₀ t) :
    H.size ≤ T'.heap.size ∧ (∀ q : Nat, q < H.size → ¬ A1 q → T'.heap[q]? = H[q]?) ∧ va_S A0 H0 T'.heap (locs ++ L) := by
  obtain ⟨hz, hk⟩ := hF
  rw [h0] at hz hk
  exact ⟨by rw [e1]; exact hz, fun q h1 h2 => by rw [e1]; exact hk q h1 h2,
    ⟨Nat.le_trans hS.1 (by rw [e1]; exact hz), fun q h1 h2 => by rw [e1, hk q (Nat.lt_of_lt_of_le h1 hS.1) (fun z => h2 (hA q (Nat.lt_of_lt_of_le h1 hS.1) z))]; exact hS.2.1 q h1 h2, fun q hq => by
      rcases List.mem_append.mp hq with h | h
      · exact hS.2.2 q h
      · exact hf _ (hL q h)⟩⟩
theorem vx_calli {S SX : Type} {post : Int32 → S → Prop} {px : SX → Prop} {B : S → State → Prop} {BX : String → SX → State → Prop} {AX : Nat → Prop} (hr : vx_Run p l e R s m args below meth c H locs cells slots mc ms (F0 m pc ls st0) rest (va_Qi post B A1 a) (vx_X px BX AX) free) (hS : va_S A0 H0 H locs) (hA : ∀ q, q < H.size → A1 q → A0 q) (hf : ∀ q, free q → A0 q) (hAX : ∀ q, q < H.size → AX q → A0 q)
    (kx : ∀ (E : String) (ce : Cell) (q9 : Addr) (u : SX) (t : State) (H1 : Heap) (locs1 : List Loc), t.heap = H1 → s.vm.Alike t.vm → px u → BX E u t → H.size ≤ H1.size → (∀ q : Nat, q < H.size → ¬ AX q → H1[q]? = H[q]?) → va_S A0 H0 H1 locs1 → H1[q9]? = some ce → ce.vm = .none → s.vm.findClass E = some ce.cls → vx_W p l e R s m args below meth c H1 locs1 (cells + mc) (slots + ms) Q (F0 m pc ls rest) q9)
    (kk : ∀ (r : Int32) (u : S) (t : State) (H1 : Heap) (locs1 : List Loc), t.heap = H1 → s.vm.Alike t.vm → post r u → B u t → H.size ≤ H1.size → (∀ q : Nat, q < H.size → ¬ A1 q → H1[q]? = H[q]?) → va_S A0 H0 H1 locs1 → W p l e R s m args below meth c H1 locs1 (cells + mc) (slots + ms) Q (F0 m (pc + 3) ls (.int r :: rest))) : W p l e R s m args below meth c H locs cells slots Q (F0 m pc ls st0) := by
  intro T hT X
  rcases hr T hT X with ⟨v, st₀, t, T', L, h0, X', hL, e1, e2, ⟨⟨r, u, hv, hp, hb⟩, hF⟩, st⟩ | ⟨q, st₀, t, T', L, E, ce, h0, X', hL, e1, e2, ⟨u, hp, hb, hF⟩, hce, hcv, hcl, st⟩
  · cases hv
    obtain ⟨k1, k2, k3⟩ := vx_keep h0 e1 hS hA hf hL hF
    obtain ⟨t2, a1, b1⟩ := kk r u t T'.heap (locs ++ L) e1.symm (by rw [← e2]; exact X'.warmed.alike) hp hb k1 k2 k3 T' rfl X'
    exact ⟨t2, st t2 a1, b1⟩
  · obtain ⟨k1, k2, k3⟩ := vx_keep h0 e1 hS hAX hf hL hF
    obtain ⟨t2, a1, b1⟩ := kx E ce q u t T'.heap (locs ++ L) e1.symm (by rw [← e2]; exact X'.warmed.alike) hp hb k1 k2 k3 (by rw [e1]; exact hce) hcv hcl T' rfl X'
    exact ⟨t2, st.trans a1, b1⟩
theorem vx_calll {S SX : Type} {post : Int64 → S → Prop} {px : SX → Prop} {B : S → State → Prop} {BX : String → SX → State → Prop} {AX : Nat → Prop} (hr : vx_Run p l e R s m args below meth c H locs cells slots mc ms (F0 m pc ls st0) rest (va_Ql post B A1 a) (vx_X px BX AX) free) (hS : va_S A0 H0 H locs) (hA : ∀ q, q < H.size → A1 q → A0 q) (hf : ∀ q, free q → A0 q) (hAX : ∀ q, q < H.size → AX q → A0 q)
    (kx : ∀ (E : String) (ce : Cell) (q9 : Addr) (u : SX) (t : State) (H1 : Heap) (locs1 : List Loc), t.heap = H1 → s.vm.Alike t.vm → px u → BX E u t → H.size ≤ H1.size → (∀ q : Nat, q < H.size → ¬ AX q → H1[q]? = H[q]?) → va_S A0 H0 H1 locs1 → H1[q9]? = some ce → ce.vm = .none → s.vm.findClass E = some ce.cls → vx_W p l e R s m args below meth c H1 locs1 (cells + mc) (slots + ms) Q (F0 m pc ls rest) q9)
    (kk : ∀ (r : Int64) (u : S) (t : State) (H1 : Heap) (locs1 : List Loc), t.heap = H1 → s.vm.Alike t.vm → post r u → B u t → H.size ≤ H1.size → (∀ q : Nat, q < H.size → ¬ A1 q → H1[q]? = H[q]?) → va_S A0 H0 H1 locs1 → W p l e R s m args below meth c H1 locs1 (cells + mc) (slots + ms) Q (F0 m (pc + 3) ls (.long r :: rest))) : W p l e R s m args below meth c H locs cells slots Q (F0 m pc ls st0) := by
  intro T hT X
  rcases hr T hT X with ⟨v, st₀, t, T', L, h0, X', hL, e1, e2, ⟨⟨r, u, hv, hp, hb⟩, hF⟩, st⟩ | ⟨q, st₀, t, T', L, E, ce, h0, X', hL, e1, e2, ⟨u, hp, hb, hF⟩, hce, hcv, hcl, st⟩
  · cases hv
    obtain ⟨k1, k2, k3⟩ := vx_keep h0 e1 hS hA hf hL hF
    obtain ⟨t2, a1, b1⟩ := kk r u t T'.heap (locs ++ L) e1.symm (by rw [← e2]; exact X'.warmed.alike) hp hb k1 k2 k3 T' rfl X'
    exact ⟨t2, st t2 a1, b1⟩
  · obtain ⟨k1, k2, k3⟩ := vx_keep h0 e1 hS hAX hf hL hF
    obtain ⟨t2, a1, b1⟩ := kx E ce q u t T'.heap (locs ++ L) e1.symm (by rw [← e2]; exact X'.warmed.alike) hp hb k1 k2 k3 (by rw [e1]; exact hce) hcv hcl T' rfl X'
    exact ⟨t2, st.trans a1, b1⟩
theorem vx_callf {S SX : Type} {post : UInt32 → S → Prop} {px : SX → Prop} {B : S → State → Prop} {BX : String → SX → State → Prop} {AX : Nat → Prop} (hr : vx_Run p l e R s m args below meth c H locs cells slots mc ms (F0 m pc ls st0) rest (va_Qf post B A1 a) (vx_X px BX AX) free) (hS : va_S A0 H0 H locs) (hA : ∀ q, q < H.size → A1 q → A0 q) (hf : ∀ q, free q → A0 q) (hAX : ∀ q, q < H.size → AX q → A0 q)
    (kx : ∀ (E : String) (ce : Cell) (q9 : Addr) (u : SX) (t : State) (H1 : Heap) (locs1 : List Loc), t.heap = H1 → s.vm.Alike t.vm → px u → BX E u t → H.size ≤ H1.size → (∀ q : Nat, q < H.size → ¬ AX q → H1[q]? = H[q]?) → va_S A0 H0 H1 locs1 → H1[q9]? = some ce → ce.vm = .none → s.vm.findClass E = some ce.cls → vx_W p l e R s m args below meth c H1 locs1 (cells + mc) (slots + ms) Q (F0 m pc ls rest) q9)
    (kk : ∀ (r : UInt32) (u : S) (t : State) (H1 : Heap) (locs1 : List Loc), t.heap = H1 → s.vm.Alike t.vm → post r u → B u t → H.size ≤ H1.size → (∀ q : Nat, q < H.size → ¬ A1 q → H1[q]? = H[q]?) → va_S A0 H0 H1 locs1 → W p l e R s m args below meth c H1 locs1 (cells + mc) (slots + ms) Q (F0 m (pc + 3) ls (.float r :: rest))) : W p l e R s m args below meth c H locs cells slots Q (F0 m pc ls st0) := by
  intro T hT X
  rcases hr T hT X with ⟨v, st₀, t, T', L, h0, X', hL, e1, e2, ⟨⟨r, u, hv, hp, hb⟩, hF⟩, st⟩ | ⟨q, st₀, t, T', L, E, ce, h0, X', hL, e1, e2, ⟨u, hp, hb, hF⟩, hce, hcv, hcl, st⟩
  · cases hv
    obtain ⟨k1, k2, k3⟩ := vx_keep h0 e1 hS hA hf hL hF
    obtain ⟨t2, a1, b1⟩ := kk r u t T'.heap (locs ++ L) e1.symm (by rw [← e2]; exact X'.warmed.alike) hp hb k1 k2 k3 T' rfl X'
    exact ⟨t2, st t2 a1, b1⟩
  · obtain ⟨k1, k2, k3⟩ := vx_keep h0 e1 hS hAX hf hL hF
    obtain ⟨t2, a1, b1⟩ := kx E ce q u t T'.heap (locs ++ L) e1.symm (by rw [← e2]; exact X'.warmed.alike) hp hb k1 k2 k3 (by rw [e1]; exact hce) hcv hcl T' rfl X'
    exact ⟨t2, st.trans a1, b1⟩
theorem vx_calld {S SX : Type} {post : UInt64 → S → Prop} {px : SX → Prop} {B : S → State → Prop} {BX : String → SX → State → Prop} {AX : Nat → Prop} (hr : vx_Run p l e R s m args below meth c H locs cells slots mc ms (F0 m pc ls st0) rest (va_Qd post B A1 a) (vx_X px BX AX) free) (hS : va_S A0 H0 H locs) (hA : ∀ q, q < H.size → A1 q → A0 q) (hf : ∀ q, free q → A0 q) (hAX : ∀ q, q < H.size → AX q → A0 q)
    (kx : ∀ (E : String) (ce : Cell) (q9 : Addr) (u : SX) (t : State) (H1 : Heap) (locs1 : List Loc), t.heap = H1 → s.vm.Alike t.vm → px u → BX E u t → H.size ≤ H1.size → (∀ q : Nat, q < H.size → ¬ AX q → H1[q]? = H[q]?) → va_S A0 H0 H1 locs1 → H1[q9]? = some ce → ce.vm = .none → s.vm.findClass E = some ce.cls → vx_W p l e R s m args below meth c H1 locs1 (cells + mc) (slots + ms) Q (F0 m pc ls rest) q9)
    (kk : ∀ (r : UInt64) (u : S) (t : State) (H1 : Heap) (locs1 : List Loc), t.heap = H1 → s.vm.Alike t.vm → post r u → B u t → H.size ≤ H1.size → (∀ q : Nat, q < H.size → ¬ A1 q → H1[q]? = H[q]?) → va_S A0 H0 H1 locs1 → W p l e R s m args below meth c H1 locs1 (cells + mc) (slots + ms) Q (F0 m (pc + 3) ls (.double r :: rest))) : W p l e R s m args below meth c H locs cells slots Q (F0 m pc ls st0) := by
  intro T hT X
  rcases hr T hT X with ⟨v, st₀, t, T', L, h0, X', hL, e1, e2, ⟨⟨r, u, hv, hp, hb⟩, hF⟩, st⟩ | ⟨q, st₀, t, T', L, E, ce, h0, X', hL, e1, e2, ⟨u, hp, hb, hF⟩, hce, hcv, hcl, st⟩
  · cases hv
    obtain ⟨k1, k2, k3⟩ := vx_keep h0 e1 hS hA hf hL hF
    obtain ⟨t2, a1, b1⟩ := kk r u t T'.heap (locs ++ L) e1.symm (by rw [← e2]; exact X'.warmed.alike) hp hb k1 k2 k3 T' rfl X'
    exact ⟨t2, st t2 a1, b1⟩
  · obtain ⟨k1, k2, k3⟩ := vx_keep h0 e1 hS hAX hf hL hF
    obtain ⟨t2, a1, b1⟩ := kx E ce q u t T'.heap (locs ++ L) e1.symm (by rw [← e2]; exact X'.warmed.alike) hp hb k1 k2 k3 (by rw [e1]; exact hce) hcv hcl T' rfl X'
    exact ⟨t2, st.trans a1, b1⟩
theorem vx_callv {S SX : Type} {post : S → Prop} {px : SX → Prop} {B : S → State → Prop} {BX : String → SX → State → Prop} {AX : Nat → Prop} (hr : vx_Run p l e R s m args below meth c H locs cells slots mc ms (F0 m pc ls st0) rest (va_Qv post B A1 a) (vx_X px BX AX) free) (hS : va_S A0 H0 H locs) (hA : ∀ q, q < H.size → A1 q → A0 q) (hf : ∀ q, free q → A0 q) (hAX : ∀ q, q < H.size → AX q → A0 q)
    (kx : ∀ (E : String) (ce : Cell) (q9 : Addr) (u : SX) (t : State) (H1 : Heap) (locs1 : List Loc), t.heap = H1 → s.vm.Alike t.vm → px u → BX E u t → H.size ≤ H1.size → (∀ q : Nat, q < H.size → ¬ AX q → H1[q]? = H[q]?) → va_S A0 H0 H1 locs1 → H1[q9]? = some ce → ce.vm = .none → s.vm.findClass E = some ce.cls → vx_W p l e R s m args below meth c H1 locs1 (cells + mc) (slots + ms) Q (F0 m pc ls rest) q9)
    (kk : ∀ (u : S) (t : State) (H1 : Heap) (locs1 : List Loc), t.heap = H1 → s.vm.Alike t.vm → post u → B u t → H.size ≤ H1.size → (∀ q : Nat, q < H.size → ¬ A1 q → H1[q]? = H[q]?) → va_S A0 H0 H1 locs1 → W p l e R s m args below meth c H1 locs1 (cells + mc) (slots + ms) Q (F0 m (pc + 3) ls (rest))) : W p l e R s m args below meth c H locs cells slots Q (F0 m pc ls st0) := by
  intro T hT X
  rcases hr T hT X with ⟨v, st₀, t, T', L, h0, X', hL, e1, e2, ⟨⟨u, hv, hp, hb⟩, hF⟩, st⟩ | ⟨q, st₀, t, T', L, E, ce, h0, X', hL, e1, e2, ⟨u, hp, hb, hF⟩, hce, hcv, hcl, st⟩
  · cases hv
    obtain ⟨k1, k2, k3⟩ := vx_keep h0 e1 hS hA hf hL hF
    obtain ⟨t2, a1, b1⟩ := kk u t T'.heap (locs ++ L) e1.symm (by rw [← e2]; exact X'.warmed.alike) hp hb k1 k2 k3 T' rfl X'
    exact ⟨t2, st t2 a1, b1⟩
  · obtain ⟨k1, k2, k3⟩ := vx_keep h0 e1 hS hAX hf hL hF
    obtain ⟨t2, a1, b1⟩ := kx E ce q u t T'.heap (locs ++ L) e1.symm (by rw [← e2]; exact X'.warmed.alike) hp hb k1 k2 k3 (by rw [e1]; exact hce) hcv hcl T' rfl X'
    exact ⟨t2, st.trans a1, b1⟩
/-- caught by the row x of this method's table; the rows ahead don't take it -/
theorem vx_catch {own name : String} {E : String} {ce : Cell} {q : Addr} (hown : s.vm.findClass own = some m.cls) (pre : List ExceptionTableEntry) (x : ExceptionTableEntry) (suf : List ExceptionTableEntry) (hsplit : c.exceptionTable.toList = pre ++ x :: suf)
    (hpass : ∀ z ∈ pre, covers z pc = false ∨ (z.catchType ≠ 0 ∧ ∃ nm : String, (Cond.classLink own z.catchType nm).before args s = true ∧ va_Nc E nm s)) (hx : covers x pc = true) (h0 : x.catchType ≠ 0)
    (hlink : (Cond.classLink own x.catchType name).before args s = true) (hcast : (Cond.castable E name).before args s = true) (hcell : H[q]? = some ce) (hv : ce.vm = .none) (hcl : s.vm.findClass E = some ce.cls)
    (kk : W p l e R s m args below meth c H locs cells slots Q (F0 m x.handlerPc ls [.ref q])) : vx_W p l e R s m args below meth c H locs cells slots Q (F0 m pc ls rest) q := by
  intro T hT X
  have hpl : e.platform.magicAccessors = ({} : Platform).magicAccessors := by rw [X.admits.platform]
  obtain ⟨c3, c4, hc3, hc4, hasg⟩ := Cond.castable_spec hcast
  cases Option.some.inj (hc3.symm.trans hcl)
  obtain ⟨c5, hc5, hcl5⟩ := Cond.classLink_spec hown hlink e.platform hpl
  cases Option.some.inj (hc4.symm.trans hc5)
  obtain ⟨vm', X', st⟩ := X.thenCaughtThrough q (g := F0 m pc ls rest) rfl (Steps.refl _) (by rw [hT]; exact hcell) (by rw [hv]; rfl) (by obtain ⟨k9, h9, -⟩ := Vm.findClass_spec hcl; exact ⟨k9, h9⟩) pre x suf hsplit
    (fun z hz => by
      rcases hpass z hz with h | ⟨hz0, nm, hl1, hn1⟩
      · exact Or.inl h
      · obtain ⟨c6, hc6, hcl6⟩ := Cond.classLink_spec hown hl1 e.platform hpl
        obtain ⟨a8, b8, h1, h2, h3⟩ := hn1
        cases Option.some.inj (h1.symm.trans hcl)
        cases Option.some.inj (h2.symm.trans hc6)
        exact Or.inr ⟨hz0, _, hcl6, h3⟩) hx (Or.inr ⟨h0, c4, hcl5, hasg⟩)
  obtain ⟨t, a1, b1⟩ := kk (T.setVm vm') hT X'
  exact ⟨t, st.trans a1, b1⟩
end Rows
section Ends
variable {p : Program} {l : Launch} {e : Env} {R : Room} {s : State} {m : MethodId} {args : Array Value} {below : List Frame} {meth : Method} {c : Code} {H : Heap} {locs : List Loc} {cells slots : Nat} {Q : State → Prop}
variable {mc ms : Nat} {free : Addr → Prop} {A0 A1 : Nat → Prop} {H0 : Heap} {a : Array Value} {ls : Array Slot} {st0 rest : List Value}
variable {Qc : Array Value → State → Outcome → State → Prop} {XC : String → State → State → Prop}
/-- what a body that may throw owes at its end -/
def vx_MQ (below : List Frame) (Qc : Array Value → State → Outcome → State → Prop) (XC : String → State → State → Prop) (a : Array Value) (s : State) (mc ms : Nat) (free : Addr → Prop) : State → Prop := fun t =>
  ∃ o, t.status = .running ∧ Ended t below o ∧ vx_Q Qc XC mc ms free a s o t
theorem vx_ret {g : JFrame} {mc ms : Nat} (k : W p l e R s m args below meth c H locs cells slots (MQ below Qc args s mc ms free) g) : W p l e R s m args below meth c H locs cells slots (vx_MQ below Qc XC args s mc ms free) g := by
  intro T hT X
  obtain ⟨t, a1, o, b1, b2, b3, b4⟩ := k T hT X
  exact ⟨t, a1, o, b1, b2, Or.inl ⟨b3, b4⟩⟩
/-- not caught here: it goes on to the caller -/
theorem vx_widen {g : JFrame} {q : Addr} {k n : Nat} (h1 : cells ≤ k) (h2 : slots ≤ n) (kk : vx_W p l e R s m args below meth c H locs k n Q g q) : vx_W p l e R s m args below meth c H locs cells slots Q g q := fun T hT X => kk T hT (stand_widen X h1 h2)
theorem vx_out {pc : Nat} {E : String} {ce : Cell} {q : Addr} {mc ms : Nat} (hout : ∀ x ∈ c.exceptionTable.toList, covers x pc = false) (hlocks : meth.locks = false) (hcell : H[q]? = some ce) (hv : ce.vm = .none) (hcl : s.vm.findClass E = some ce.cls)
    (hx : ∀ t : State, t.heap = H → s.vm.Alike t.vm → XC E s t) (hf : ∀ z ∈ locs, free z.base) (hc : cells ≤ mc) (hs : slots ≤ ms) :
    vx_W p l e R s m args below meth c H locs cells slots (vx_MQ below Qc XC args s mc ms free) (F0 m pc ls rest) q := by
  intro T hT X
  obtain ⟨st1, hrun, hend, hW, hsm⟩ := X.leaveThrown q (g := F0 m pc ls rest) rfl rfl rfl hout hlocks
  have hcell9 : (T.setFrames (.throwing q :: below)).heap[q]? = some ce := by
    show T.heap[q]? = some ce
    rw [hT]; exact hcell
  exact ⟨_, st1, .threw q, hrun, hend, Or.inr ⟨q, rfl, E, ce, locs, hx _ hT hW.alike, hcell9, hv, hcl, hW, hsm.mono hc hs, hf⟩⟩
theorem vx_frame {U : State} {k n : Nat} (h : s.sameButNew ({ U with vm := s.vm } : State) locs k n) : s.heap.size ≤ U.heap.size ∧ ∀ q : Nat, q < s.heap.size → (∀ z ∈ locs, z.base ≠ q) → U.heap[q]? = s.heap[q]? := by
  obtain ⟨-, h2, -, -, -, h6⟩ := h
  refine ⟨h2, fun q hq hz => ?_⟩
  obtain ⟨c9, e1, e2, e3, e4⟩ := h6 q _ (Array.getElem?_eq_getElem hq)
  have hs : c9.slots = (s.heap[q]).slots := Array.ext_getElem? fun i => e4 i fun hm => hz _ hm rfl
  have h9 : c9 = s.heap[q] := by
    rw [hs] at e2
    exact e2
  have e5 : U.heap[q]? = some c9 := e1
  rw [e5, h9, Array.getElem?_eq_getElem hq]
/-- the words of a throw but the four that speak of the heap -/
def vx_no (w : Cond) : Bool := decide (w ≠ .isRef (.static Bundle.tN "UNASSIGNED_STACK" Bundle.steD)) && decide (w ≠ .isRef (.static Bundle.tN "SUPPRESSED_SENTINEL" Bundle.listD)) && decide (w ≠ .laysStatic Bundle.tN "UNASSIGNED_STACK" Bundle.steD) && decide (w ≠ .laysStatic Bundle.tN "SUPPRESSED_SENTINEL" Bundle.listD)
def vx_at0 (own : String) (ic : Nat) (X : String) (names : List String) : List Cond := (Bundle.ownAtoms0 own ic X names).filter vx_no
def vx_atS (own : String) (ic : Nat) (X : String) (names : List String) : List Cond := (Bundle.ownAtoms own ic X names).filter vx_no
/-- a word that the tables alone decide, or a good one -/
def vx_ot (w : Cond) : Bool := w.onTables || goodWord w
theorem vx_ot_at {args a' : Array Value} {s U : State} {w : Cond} (hW : s.WarmedH U.vm) (hvm : s.vm = U.vm) (hg : vx_ot w = true) (h : w.before args s = true) : w.before a' U = true := by
  simp only [vx_ot, Bool.or_eq_true] at hg
  rcases hg with hg | hg
  · exact va_tabs hg hvm h
  · exact word_at hW (good_of_word hg) h
/-- a list's words: the good ones out of the method's own list, the others by premises of their own -/
theorem vx_hat {args : Array Value} {s : State} {L B : List Cond} (h1 : ∀ w ∈ L.filter goodWord, w.before args s = true) (h2 : ∀ w ∈ L.filter (fun w => !goodWord w), w ∈ B) (h3 : ∀ w ∈ B, w.before args s = true) : ∀ w ∈ L, w.before args s = true := by
  intro w hw
  by_cases g : goodWord w = true
  · exact h1 w (List.mem_filter.mpr ⟨hw, g⟩)
  · refine h3 w (h2 w (List.mem_filter.mpr ⟨hw, ?_⟩))
    show (!goodWord w) = true
    cases hgw : goodWord w
    · rfl
    · exact absurd hgw g
theorem vx_c {args : Array Value} {s : State} {w : Cond} {B : List Cond} (h : w.before args s = true) (t : ∀ w ∈ B, w.before args s = true) : ∀ w' ∈ w :: B, w'.before args s = true := fun w' h' => (List.mem_cons.mp h').elim (fun e => by rw [e]; exact h) (t w')
theorem vx_n {args : Array Value} {s : State} : ∀ w ∈ ([] : List Cond), w.before args s = true := fun _ h => nomatch h
theorem vx_own {args : Array Value} {s : State} {L : List Cond} (h1 : ∀ w ∈ L.filter vx_no, w.before args s = true)
    (hU : (Cond.isRef (.static Bundle.tN "UNASSIGNED_STACK" Bundle.steD)).before args s = true) (hN : (Cond.isRef (.static Bundle.tN "SUPPRESSED_SENTINEL" Bundle.listD)).before args s = true)
    (lU : (Cond.laysStatic Bundle.tN "UNASSIGNED_STACK" Bundle.steD).before args s = true) (lN : (Cond.laysStatic Bundle.tN "SUPPRESSED_SENTINEL" Bundle.listD).before args s = true) : ∀ w ∈ L, w.before args s = true := by
  intro w hw
  by_cases e1 : w = .isRef (.static Bundle.tN "UNASSIGNED_STACK" Bundle.steD)
  · rw [e1]; exact hU
  · by_cases e2 : w = .isRef (.static Bundle.tN "SUPPRESSED_SENTINEL" Bundle.listD)
    · rw [e2]; exact hN
    · by_cases e3 : w = .laysStatic Bundle.tN "UNASSIGNED_STACK" Bundle.steD
      · rw [e3]; exact lU
      · by_cases e4 : w = .laysStatic Bundle.tN "SUPPRESSED_SENTINEL" Bundle.listD
        · rw [e4]; exact lN
        · exact h1 w (List.mem_filter.mpr ⟨hw, by unfold vx_no; rw [decide_eq_true e1, decide_eq_true e2, decide_eq_true e3, decide_eq_true e4]; rfl⟩)
/-- where a static field lies, its class's statics cell in H -/
def vx_L (C n d : String) (A : Nat → Prop) (U : State) (H : Heap) : Prop := ∃ (c : ClassId) (k : Class) (i : Nat) (f : Field) (a : Nat) (cell : Cell), U.vm.findClass C = some c ∧ U.fieldFound? C n d = some (c, k, i, f) ∧ f.isStatic = true ∧ k.statics = some a ∧ H[a]? = some cell ∧ cell.vm.isStatics = true ∧ cell.cls = c ∧ f.slot < cell.slots.size ∧ k.staticTypes[f.slot]? = some f.type ∧ ¬ A a
theorem vx_L.moved {C n d : String} {A : Nat → Prop} {u U : State} {H : Heap} (hvm : u.vm.Alike U.vm) (h : vx_L C n d A u H) : vx_L C n d A U H := by
  obtain ⟨c, k, i, f, a, cell, h1, h2, h3, h4, h5, h6, h7, h8, h9, h10⟩ := h
  obtain ⟨k', hi', he⟩ := State.fieldFound?_setVm hvm h2
  exact ⟨c, k', i, f, a, cell, by rw [hvm.findClass]; exact h1, hi', h3, by rw [he]; exact h4, h5, h6, h7, h8, by rw [he]; exact h9, h10⟩
theorem vx_L.kept {C n d : String} {A : Nat → Prop} {U : State} {H H1 : Heap} (h : vx_L C n d A U H) (hq : ∀ a : Nat, a < H.size → ¬ A a → H1[a]? = H[a]?) : vx_L C n d A U H1 := by
  obtain ⟨c, k, i, f, a, cell, h1, h2, h3, h4, h5, h6, h7, h8, h9, h10⟩ := h
  exact ⟨c, k, i, f, a, cell, h1, h2, h3, h4, by rw [hq a (Array.getElem?_eq_some_iff.mp h5).1 h10]; exact h5, h6, h7, h8, h9, h10⟩
theorem vx_L.narrow {C n d : String} {A B : Nat → Prop} {U : State} {H : Heap} (h : vx_L C n d A U H) (hAB : ∀ q, B q → A q) : vx_L C n d B U H := by
  obtain ⟨c, k, i, f, a, cell, h1, h2, h3, h4, h5, h6, h7, h8, h9, h10⟩ := h
  exact ⟨c, k, i, f, a, cell, h1, h2, h3, h4, h5, h6, h7, h8, h9, fun z => h10 (hAB _ z)⟩
theorem vx_L.word {C n d : String} {A : Nat → Prop} {s : State} {args : Array Value} (h : vx_L C n d A s s.heap) : (Cond.laysStatic C n d).before args s = true := by
  obtain ⟨c, k, i, f, a, cell, h1, h2, h3, h4, h5, h6, h7, h8, h9, -⟩ := h
  show (Cond.laysStatic C n d).holds args s none s [] = true
  exact Cond.laysStatic_of h1 h2 h3 h4 h5 h6 h7 h8 h9
/-- .. and what it holds: null or some reference -/
def vx_Zq (C n d : String) (A : Nat → Prop) (U : State) (H : Heap) : Prop := va_Zq C n d A U H ∧ vx_L C n d A U H
theorem vx_Zq.moved {C n d : String} {A : Nat → Prop} {u U : State} {H : Heap} (hvm : u.vm.Alike U.vm) (h : vx_Zq C n d A u H) : vx_Zq C n d A U H := ⟨va_Zq.moved hvm h.1, vx_L.moved hvm h.2⟩
theorem vx_Zq.kept {C n d : String} {A : Nat → Prop} {U : State} {H H1 : Heap} (h : vx_Zq C n d A U H) (hq : ∀ a : Nat, a < H.size → ¬ A a → H1[a]? = H[a]?) : vx_Zq C n d A U H1 := ⟨va_Zq.kept h.1 hq, vx_L.kept h.2 hq⟩
theorem vx_Zq.narrow {C n d : String} {A B : Nat → Prop} {U : State} {H : Heap} (h : vx_Zq C n d A U H) (hAB : ∀ q, B q → A q) : vx_Zq C n d B U H := ⟨va_Zq.narrow h.1 hAB, vx_L.narrow h.2 hAB⟩
theorem vx_Zqof {args : Array Value} {s : State} {C n d : String} {A : Nat → Prop} (hl : (Cond.laysStatic C n d).before args s = true) (hini : (Cond.initialized C).before args s = true) (h : (Cond.isRef (.static C n d)).before args s = true) (hA : ∀ a : Nat, a < s.heap.size → ¬ A a) : vx_Zq C n d A s s.heap := by
  refine ⟨va_Zqof hl hini h hA, ?_⟩
  obtain ⟨c, k, i, f, a, cell, h1, h2, h3, h4, h5, h6, h7, h8, h9⟩ := Cond.laysStatic_spec hl
  exact ⟨c, k, i, f, a, cell, h1, h2, h3, h4, h5, h6, h7, h8, h9, hA a (Array.getElem?_eq_some_iff.mp h5).1⟩
theorem vx_isRef {C n d : String} {v : Value} {A : Nat → Prop} {s : State} {args : Array Value} (h : va_Z C n d v A s s.heap) (hv : v.isRef = true) : (Cond.isRef (.static C n d)).before args s = true := by
  obtain ⟨cf, kf, fi, f, a, cell, h1, h2, h3, h4, h5, h6, h7, -⟩ := h
  have he : (Term.static C n d).eval args s none [] s = some v := by
    simp [Term.eval, State.fieldNamed?, h1, h2, h4, h5, h6, h7]
  simp only [Cond.before, Cond.holds, Cond.value, he]
  cases v <;> simp_all [Value.isRef]
theorem vx_isRefq {C n d : String} {A : Nat → Prop} {s : State} {args : Array Value} (h : va_Zq C n d A s s.heap) : (Cond.isRef (.static C n d)).before args s = true := by
  rcases h with h | ⟨t, h⟩
  · exact vx_isRef h rfl
  · exact vx_isRef h rfl
/-- the same frame, seen from here: as if the method were called anew in this heap -/
theorem vx_rebase {T : State} (X : Stand p l e R s m args below meth c T locs cells slots) {R' : Room} (hf : R'.frames ≤ R.frames) (hl : R'.locals ≤ R.locals) (hc : cells + R'.cells ≤ R.cells) (hs : slots + R'.slots ≤ R.slots) :
    Stand p l e R' ((T.setVm s.vm).setFrames (.invoking m args :: below)) m args below meth c T [] 0 0 := by
  have htop : (T.setVm s.vm).topJava?.isSome := X.here.top
  have hF : ((T.setVm s.vm).setFrames (.invoking m args :: below)).frames = .invoking m args :: below := State.frames_setFrames _ (State.cur_lt_of_top htop)
  obtain ⟨g₀, hg0⟩ := Option.isSome_iff_exists.mp htop
  obtain ⟨r, hr⟩ := State.topJava?_eq_some.mp hg0
  have hl9 : e.platform.stackLimits (T.setVm s.vm).me = e.platform.stackLimits s.me := X.limits
  have hb9 : (T.setVm s.vm).me.stackBytes = s.me.stackBytes := X.bytes
  refine ⟨X.admits, X.cas, X.clock, hF, ?_, X.hears, X.method, X.code, X.here, X.tail, X.warmed, ?_, ?_, ?_⟩
  · have h := X.room
    have hU : ((T.setVm s.vm).setFrames (.invoking m args :: below)).localsInUse = s.localsInUse := by
      rw [State.localsInUse_invoking hF (meth := meth) (c := c) X.method X.code, State.localsInUse_invoking X.frames X.method X.code]
    simp only [State.hasRoom, Bool.and_eq_true, decide_eq_true_eq] at h ⊢
    obtain ⟨⟨⟨⟨h1, h2, h3, h4, h5, h6⟩, h7⟩, h8⟩, h9⟩ := h
    rw [X.frames, List.length_cons] at h2 h3
    have q1 := X.heapSize
    have q2 := X.used
    simp only [hF, hU, List.length_cons, State.stackLimits_setFrames, State.stackBytes_setFrames, hl9, hb9]
    refine ⟨⟨⟨⟨by omega, by omega, by omega, by omega, by omega, h6⟩, ?_⟩, ?_⟩, X.book⟩
    · show T.heap.size + R'.cells ≤ e.platform.maxCells
      omega
    · show T.slotsUsed + R'.slots ≤ e.platform.maxSlots
      omega
  · rw [State.stackLimits_setFrames]; rfl
  · rw [State.stackBytes_setFrames]; rfl
  · refine ⟨?_, Nat.le_refl _, Nat.le_refl _, ?_, ?_, fun a c9 h9 => ⟨c9, h9, rfl, rfl, fun _ _ => rfl⟩⟩
    · obtain ⟨t, ht, -⟩ := State.frames_cons hr
      show T.setVm s.vm = { ((T.setVm s.vm).setFrames (.invoking m args :: below)).setFrames (T.setVm s.vm).frames with heap := T.heap, slotsUsed := T.slotsUsed }
      rw [State.setFrames_setFrames, State.setFrames_self ht]
      rfl
    · show T.slotsUsed = T.slotsUsed + ((T.heap.toList.drop T.heap.size).map (·.slots.size)).sum
      rw [List.drop_eq_nil_of_le (Nat.le_of_eq Array.length_toList)]
      rfl
    · show ((T.heap.toList.drop T.heap.size).map (·.slots.size)).sum ≤ 0
      rw [List.drop_eq_nil_of_le (Nat.le_of_eq Array.length_toList)]
      exact Nat.le_refl _
/-- 'throw new E()': new; dup; invokespecial; athrow -/
theorem vx_throw0 {cc : ByteArray} {pc : Nat} (hexec : p.tables.exec = Jvm.exec) (hb : c.code = cc) (hl : l.stackTraces = false) {own cls : String} {names : List String} {ik ic mc ms : Nat} {A : Nat → Prop}
    (hown : s.vm.findClass own = some m.cls) (hcls : Bundle.fit cls = true) (hnames : ∀ n ∈ names, Bundle.fit n = true)
    (hk : (Cond.classLink own ik cls).before args s = true) (hini : (Cond.initialized cls).before args s = true) (hat : ∀ w ∈ vx_at0 own ic cls names, w.before args s = true)
    (hgood : ∀ w ∈ Cond.classLink own ik cls :: Cond.initialized cls :: vx_at0 own ic cls names, vx_ot w = true)
    (hU : vx_Zq Bundle.tN "UNASSIGNED_STACK" Bundle.steD A s s.heap) (hN : vx_Zq Bundle.tN "SUPPRESSED_SENTINEL" Bundle.listD A s s.heap) (hS : va_S A s.heap H locs) (hsize : ls.size = c.maxLocals)
    (d0 : decode cc pc = .ok (.new ik, 3)) (d3 : decode cc (pc + 3) = .ok (.dup, 1)) (d4 : decode cc (pc + 4) = .ok (.invokespecial ic, 3)) (d7 : decode cc (pc + 7) = .ok (.athrow, 1))
    (hout : ∀ x ∈ c.exceptionTable.toList, covers x (pc + 7) = false)
    (hRframes : names.length + 3 < R.frames) (hRlocals : (rest.map fun v => v.category).sum + (13 * (names.length + 1) + 42) ≤ R.locals) (hRcells : cells + 1 ≤ R.cells) (hRslots : slots + 6 ≤ R.slots) (hlocks : meth.locks = false)
    (hx : ∀ t : State, s.vm.Alike t.vm → H.size ≤ t.heap.size → (∀ q : Nat, q < H.size → t.heap[q]? = H[q]?) → XC cls s t)
    (hf : ∀ z ∈ locs, free z.base) (hc : cells + 1 ≤ mc) (hs : slots + 6 ≤ ms) :
    W p l e R s m args below meth c H locs cells slots (vx_MQ below Qc XC args s mc ms free) (F0 m pc ls rest) := by
  intro T hT X
  have htr : e.platform.stackTraces = false := (show e.platform.stackTraces = l.stackTraces by rw [X.admits.platform]).trans hl
  have Y := vx_rebase X (R' := { frames := R.frames, locals := R.locals, cells := 1, slots := 6 }) (Nat.le_refl _) (Nat.le_refl _) hRcells hRslots
  obtain ⟨s', hA⟩ : ∃ z, z = (T.setVm s.vm).setFrames (.invoking m args :: below) := ⟨_, rfl⟩
  rw [← hA] at Y
  have hvm : s'.vm = s.vm := by rw [hA]; rfl
  have hhp : s'.heap = H := by rw [hA]; exact hT
  have hW0 : s.WarmedH s'.vm := by rw [hvm]; exact State.WarmedH.refl s
  have hat' : ∀ w ∈ vx_at0 own ic cls names, w.before args s' = true := fun w hw => vx_ot_at hW0 hvm.symm (hgood w (List.mem_cons_of_mem _ (List.mem_cons_of_mem _ hw))) (hat w hw)
  have hk' : (Cond.classLink own ik cls).before args s' = true := vx_ot_at hW0 hvm.symm (hgood _ List.mem_cons_self) hk
  have hini' : (Cond.initialized cls).before args s' = true := vx_ot_at hW0 hvm.symm (hgood _ (List.mem_cons_of_mem _ List.mem_cons_self)) hini
  have hU' : vx_Zq Bundle.tN "UNASSIGNED_STACK" Bundle.steD A s' s'.heap := by rw [hhp]; exact vx_Zq.moved hW0.alike (hU.kept hS.2.1)
  have hN' : vx_Zq Bundle.tN "SUPPRESSED_SENTINEL" Bundle.listD A s' s'.heap := by rw [hhp]; exact vx_Zq.moved hW0.alike (hN.kept hS.2.1)
  have h : ∀ w ∈ Bundle.ownAtoms0 own ic cls names, w.before args s' = true := vx_own hat' (vx_isRefq hU'.1) (vx_isRefq hN'.1) hU'.2.word hN'.2.word
  have hown' : s'.vm.findClass own = some m.cls := by rw [hvm]; exact hown
  have hins : (Cond.instantiable cls 6).before args s' = true := h _ (by simp [Bundle.ownAtoms0])
  obtain ⟨vm₁, cX, kX, hfX, hkX, -, -, X₁, st1⟩ := Y.newCold hexec (own := own) (C := cls) (index := ik) (n := 6) hown' hk' hins hini'
    (g := F0 m pc ls rest) rfl (by rw [hb]; exact d0) (Nat.le_refl _) (Nat.le_refl _)
  generalize hT1 : (T.setVm vm₁).pushCell { cls := cX, slots := kX.instanceTypes.map defaultValue, vm := .none } = T1 at X₁ st1
  have hcat : (Value.ref T.heap.size).category = 1 := rfl
  have hcellA : T1.heap[T.heap.size]? = some (freshCell cX kX) := by rw [← hT1]; exact State.heap_pushCell_size _ _
  have d3' : decode c.code (pc + 3) = .ok (.dup, 1) := by rw [hb]; exact d3
  obtain ⟨U, hsteps, hrun, hend, hW, hsame, ce, hce, hO⟩ := X₁.ctorThrow0 hexec htr (own := own) (cls := cls) (names := names) (ic := ic) hown' hcls hnames h (fun x hx => nomatch hx) hfX hkX hcellA (by rw [hhp, hT]; exact Nat.le_refl _)
    (g := { method := m, pc := pc + 4, locals := ls, stack := .ref T.heap.size :: .ref T.heap.size :: rest, locked := none }) rfl hsize rfl rfl (rest := rest) rfl
    (by rw [hb]; exact d4) (by rw [hb]; exact d7) hout hRframes (by simp only [List.map_cons, List.sum_cons, hcat]; omega) hlocks
  obtain ⟨f1, f2⟩ := vx_frame hsame
  rw [hhp] at f1 f2
  have hWs : s.WarmedH U.vm := State.WarmedH.trans hW0 hW
  have hcl : s.vm.findClass cls = some ce.cls := by
    have h9 := hO.cls
    rw [hvm] at h9
    exact h9
  have hall : s.sameButNew ({ U with vm := s.vm } : State) locs mc ms := by
    subst hA
    obtain ⟨e1, e2⟩ := hsame
    rw [State.setFrames_setFrames] at e1
    have h2 : (T.setVm s.vm).sameButNew ({ U with vm := s.vm } : State) [] (0 + 1) (0 + 6) := ⟨e1, e2⟩
    have h3 := X.same.trans h2
    rw [List.append_nil] at h3
    exact h3.mono hc hs
  refine ⟨U, ?_, .threw T.heap.size, hrun, hend, Or.inr ⟨T.heap.size, rfl, cls, ce, locs, hx U hWs.alike f1 (fun q hq => f2 q hq (fun z hz => nomatch hz)), hce, hO.vm, hcl, hWs, hall, hf⟩⟩
  refine st1 _ ?_
  show Steps p.tables e below (T1.setTop { method := m, pc := pc + 3, locals := ls, stack := .ref T.heap.size :: rest, locked := none }) _
  jvm_step X₁.here [X₁.here.top, hexec, d3', Value.category]
  exact hsteps
/-- 'throw new E("text")': new; dup; ldc; invokespecial; athrow -/
theorem vx_throwS {cc : ByteArray} {pc : Nat} (hexec : p.tables.exec = Jvm.exec) (hb : c.code = cc) (hl : l.stackTraces = false) {own cls text : String} {names : List String} {ik is ic mc ms sa : Nat} {A : Nat → Prop}
    (hown : s.vm.findClass own = some m.cls) (hcls : Bundle.fit cls = true) (hnames : ∀ n ∈ names, Bundle.fit n = true)
    (hk : (Cond.classLink own ik cls).before args s = true) (hini : (Cond.initialized cls).before args s = true) (hstr : vk_R own is text sa s) (hat : ∀ w ∈ vx_atS own ic cls names, w.before args s = true)
    (hgood : ∀ w ∈ Cond.classLink own ik cls :: Cond.initialized cls :: vx_atS own ic cls names, vx_ot w = true)
    (hU : vx_Zq Bundle.tN "UNASSIGNED_STACK" Bundle.steD A s s.heap) (hN : vx_Zq Bundle.tN "SUPPRESSED_SENTINEL" Bundle.listD A s s.heap) (hS : va_S A s.heap H locs) (hsize : ls.size = c.maxLocals)
    (d0 : decode cc pc = .ok (.new ik, 3)) (d3 : decode cc (pc + 3) = .ok (.dup, 1)) (d4 : decode cc (pc + 4) = .ok (.ldc is, 2)) (d6 : decode cc (pc + 6) = .ok (.invokespecial ic, 3)) (d9 : decode cc (pc + 9) = .ok (.athrow, 1))
    (hout : ∀ x ∈ c.exceptionTable.toList, covers x (pc + 9) = false)
    (hRframes : names.length + 3 < R.frames) (hRlocals : (rest.map fun v => v.category).sum + (13 * (names.length + 1) + 43) ≤ R.locals) (hRcells : cells + 1 ≤ R.cells) (hRslots : slots + 6 ≤ R.slots) (hlocks : meth.locks = false)
    (hx : ∀ t : State, s.vm.Alike t.vm → H.size ≤ t.heap.size → (∀ q : Nat, q < H.size → t.heap[q]? = H[q]?) → XC cls s t)
    (hf : ∀ z ∈ locs, free z.base) (hc : cells + 1 ≤ mc) (hs : slots + 6 ≤ ms) :
    W p l e R s m args below meth c H locs cells slots (vx_MQ below Qc XC args s mc ms free) (F0 m pc ls rest) := by
  intro T hT X
  have htr : e.platform.stackTraces = false := (show e.platform.stackTraces = l.stackTraces by rw [X.admits.platform]).trans hl
  have Y := vx_rebase X (R' := { frames := R.frames, locals := R.locals, cells := 1, slots := 6 }) (Nat.le_refl _) (Nat.le_refl _) hRcells hRslots
  obtain ⟨s', hA⟩ : ∃ z, z = (T.setVm s.vm).setFrames (.invoking m args :: below) := ⟨_, rfl⟩
  rw [← hA] at Y
  have hvm : s'.vm = s.vm := by rw [hA]; rfl
  have hhp : s'.heap = H := by rw [hA]; exact hT
  have hW0 : s.WarmedH s'.vm := by rw [hvm]; exact State.WarmedH.refl s
  have hat' : ∀ w ∈ vx_atS own ic cls names, w.before args s' = true := fun w hw => vx_ot_at hW0 hvm.symm (hgood w (List.mem_cons_of_mem _ (List.mem_cons_of_mem _ hw))) (hat w hw)
  have hk' : (Cond.classLink own ik cls).before args s' = true := vx_ot_at hW0 hvm.symm (hgood _ List.mem_cons_self) hk
  have hini' : (Cond.initialized cls).before args s' = true := vx_ot_at hW0 hvm.symm (hgood _ (List.mem_cons_of_mem _ List.mem_cons_self)) hini
  have hU' : vx_Zq Bundle.tN "UNASSIGNED_STACK" Bundle.steD A s' s'.heap := by rw [hhp]; exact vx_Zq.moved hW0.alike (hU.kept hS.2.1)
  have hN' : vx_Zq Bundle.tN "SUPPRESSED_SENTINEL" Bundle.listD A s' s'.heap := by rw [hhp]; exact vx_Zq.moved hW0.alike (hN.kept hS.2.1)
  have h : ∀ w ∈ Bundle.ownAtoms own ic cls names, w.before args s' = true := vx_own hat' (vx_isRefq hU'.1) (vx_isRefq hN'.1) hU'.2.word hN'.2.word
  have hown' : s'.vm.findClass own = some m.cls := by rw [hvm]; exact hown
  have hins : (Cond.instantiable cls 6).before args s' = true := h _ (by simp [Bundle.ownAtoms])
  obtain ⟨vm₁, cX, kX, hfX, hkX, -, -, X₁, st1⟩ := Y.newCold hexec (own := own) (C := cls) (index := ik) (n := 6) hown' hk' hins hini'
    (g := F0 m pc ls rest) rfl (by rw [hb]; exact d0) (Nat.le_refl _) (Nat.le_refl _)
  generalize hT1 : (T.setVm vm₁).pushCell { cls := cX, slots := kX.instanceTypes.map defaultValue, vm := .none } = T1 at X₁ st1
  have hcat : (Value.ref T.heap.size).category = 1 := rfl
  have hcellA : T1.heap[T.heap.size]? = some (freshCell cX kX) := by rw [← hT1]; exact State.heap_pushCell_size _ _
  have d3' : decode c.code (pc + 3) = .ok (.dup, 1) := by rw [hb]; exact d3
  have d4' : decode c.code (pc + 4) = .ok (.ldc is, 2) := by rw [hb]; exact d4
  have hstr' : vk_R own is text sa s' := vk_R.warm hW0 hstr
  obtain ⟨U, hsteps, hrun, hend, hW, hsame, ce, hce, hO⟩ := X₁.ctorThrowS hexec htr (own := own) (cls := cls) (names := names) (ic := ic) hown' hcls hnames h (fun x hx => nomatch hx) hfX hkX hcellA (by rw [hhp, hT]; exact Nat.le_refl _) (msg := .ref sa) rfl
    (g := { method := m, pc := pc + 6, locals := ls, stack := .ref sa :: .ref T.heap.size :: .ref T.heap.size :: rest, locked := none }) rfl hsize rfl rfl (rest := rest) rfl
    (by rw [hb]; exact d6) (by rw [hb]; exact d9) hout hRframes (by simp only [List.map_cons, List.sum_cons, hcat]; omega) hlocks
  obtain ⟨f1, f2⟩ := vx_frame hsame
  rw [hhp] at f1 f2
  have hWs : s.WarmedH U.vm := State.WarmedH.trans hW0 hW
  have hcl : s.vm.findClass cls = some ce.cls := by
    have h9 := hO.cls
    rw [hvm] at h9
    exact h9
  have hall : s.sameButNew ({ U with vm := s.vm } : State) locs mc ms := by
    subst hA
    obtain ⟨e1, e2⟩ := hsame
    rw [State.setFrames_setFrames] at e1
    have h2 : (T.setVm s.vm).sameButNew ({ U with vm := s.vm } : State) [] (0 + 1) (0 + 6) := ⟨e1, e2⟩
    have h3 := X.same.trans h2
    rw [List.append_nil] at h3
    exact h3.mono hc hs
  refine ⟨U, ?_, .threw T.heap.size, hrun, hend, Or.inr ⟨T.heap.size, rfl, cls, ce, locs, hx U hWs.alike f1 (fun q hq => f2 q hq (fun z hz => nomatch hz)), hce, hO.vm, hcl, hWs, hall, hf⟩⟩
  refine st1 _ ?_
  show Steps p.tables e below (T1.setTop { method := m, pc := pc + 3, locals := ls, stack := .ref T.heap.size :: rest, locked := none }) _
  jvm_step X₁.here [X₁.here.top, hexec, d3', Value.category]
  exact X₁.ldcString hexec (own := own) (text := text) (index := is) (a := sa) hown' hstr'.1 hstr'.2
    (g := { method := m, pc := pc + 4, locals := ls, stack := .ref T.heap.size :: .ref T.heap.size :: rest, locked := none }) rfl d4' _ hsteps
/-- 'throw new E("text")', the text by a wide index -/
theorem vx_throwSW {cc : ByteArray} {pc : Nat} (hexec : p.tables.exec = Jvm.exec) (hb : c.code = cc) (hl : l.stackTraces = false) {own cls text : String} {names : List String} {ik is ic mc ms sa : Nat} {A : Nat → Prop}
    (hown : s.vm.findClass own = some m.cls) (hcls : Bundle.fit cls = true) (hnames : ∀ n ∈ names, Bundle.fit n = true)
    (hk : (Cond.classLink own ik cls).before args s = true) (hini : (Cond.initialized cls).before args s = true) (hstr : vk_R own is text sa s) (hat : ∀ w ∈ vx_atS own ic cls names, w.before args s = true)
    (hgood : ∀ w ∈ Cond.classLink own ik cls :: Cond.initialized cls :: vx_atS own ic cls names, vx_ot w = true)
    (hU : vx_Zq Bundle.tN "UNASSIGNED_STACK" Bundle.steD A s s.heap) (hN : vx_Zq Bundle.tN "SUPPRESSED_SENTINEL" Bundle.listD A s s.heap) (hS : va_S A s.heap H locs) (hsize : ls.size = c.maxLocals)
    (d0 : decode cc pc = .ok (.new ik, 3)) (d3 : decode cc (pc + 3) = .ok (.dup, 1)) (d4 : decode cc (pc + 4) = .ok (.ldc_w is, 3)) (d7 : decode cc (pc + 7) = .ok (.invokespecial ic, 3)) (d10 : decode cc (pc + 10) = .ok (.athrow, 1))
    (hout : ∀ x ∈ c.exceptionTable.toList, covers x (pc + 10) = false)
    (hRframes : names.length + 3 < R.frames) (hRlocals : (rest.map fun v => v.category).sum + (13 * (names.length + 1) + 43) ≤ R.locals) (hRcells : cells + 1 ≤ R.cells) (hRslots : slots + 6 ≤ R.slots) (hlocks : meth.locks = false)
    (hx : ∀ t : State, s.vm.Alike t.vm → H.size ≤ t.heap.size → (∀ q : Nat, q < H.size → t.heap[q]? = H[q]?) → XC cls s t)
    (hf : ∀ z ∈ locs, free z.base) (hc : cells + 1 ≤ mc) (hs : slots + 6 ≤ ms) :
    W p l e R s m args below meth c H locs cells slots (vx_MQ below Qc XC args s mc ms free) (F0 m pc ls rest) := by
  intro T hT X
  have htr : e.platform.stackTraces = false := (show e.platform.stackTraces = l.stackTraces by rw [X.admits.platform]).trans hl
  have Y := vx_rebase X (R' := { frames := R.frames, locals := R.locals, cells := 1, slots := 6 }) (Nat.le_refl _) (Nat.le_refl _) hRcells hRslots
  obtain ⟨s', hA⟩ : ∃ z, z = (T.setVm s.vm).setFrames (.invoking m args :: below) := ⟨_, rfl⟩
  rw [← hA] at Y
  have hvm : s'.vm = s.vm := by rw [hA]; rfl
  have hhp : s'.heap = H := by rw [hA]; exact hT
  have hW0 : s.WarmedH s'.vm := by rw [hvm]; exact State.WarmedH.refl s
  have hat' : ∀ w ∈ vx_atS own ic cls names, w.before args s' = true := fun w hw => vx_ot_at hW0 hvm.symm (hgood w (List.mem_cons_of_mem _ (List.mem_cons_of_mem _ hw))) (hat w hw)
  have hk' : (Cond.classLink own ik cls).before args s' = true := vx_ot_at hW0 hvm.symm (hgood _ List.mem_cons_self) hk
  have hini' : (Cond.initialized cls).before args s' = true := vx_ot_at hW0 hvm.symm (hgood _ (List.mem_cons_of_mem _ List.mem_cons_self)) hini
  have hU' : vx_Zq Bundle.tN "UNASSIGNED_STACK" Bundle.steD A s' s'.heap := by rw [hhp]; exact vx_Zq.moved hW0.alike (hU.kept hS.2.1)
  have hN' : vx_Zq Bundle.tN "SUPPRESSED_SENTINEL" Bundle.listD A s' s'.heap := by rw [hhp]; exact vx_Zq.moved hW0.alike (hN.kept hS.2.1)
  have h : ∀ w ∈ Bundle.ownAtoms own ic cls names, w.before args s' = true := vx_own hat' (vx_isRefq hU'.1) (vx_isRefq hN'.1) hU'.2.word hN'.2.word
  have hown' : s'.vm.findClass own = some m.cls := by rw [hvm]; exact hown
  have hins : (Cond.instantiable cls 6).before args s' = true := h _ (by simp [Bundle.ownAtoms])
  obtain ⟨vm₁, cX, kX, hfX, hkX, -, -, X₁, st1⟩ := Y.newCold hexec (own := own) (C := cls) (index := ik) (n := 6) hown' hk' hins hini'
    (g := F0 m pc ls rest) rfl (by rw [hb]; exact d0) (Nat.le_refl _) (Nat.le_refl _)
  generalize hT1 : (T.setVm vm₁).pushCell { cls := cX, slots := kX.instanceTypes.map defaultValue, vm := .none } = T1 at X₁ st1
  have hcat : (Value.ref T.heap.size).category = 1 := rfl
  have hcellA : T1.heap[T.heap.size]? = some (freshCell cX kX) := by rw [← hT1]; exact State.heap_pushCell_size _ _
  have d3' : decode c.code (pc + 3) = .ok (.dup, 1) := by rw [hb]; exact d3
  have d4' : decode c.code (pc + 4) = .ok (.ldc_w is, 3) := by rw [hb]; exact d4
  have hstr' : vk_R own is text sa s' := vk_R.warm hW0 hstr
  obtain ⟨U, hsteps, hrun, hend, hW, hsame, ce, hce, hO⟩ := X₁.ctorThrowS hexec htr (own := own) (cls := cls) (names := names) (ic := ic) hown' hcls hnames h (fun x hx => nomatch hx) hfX hkX hcellA (by rw [hhp, hT]; exact Nat.le_refl _) (msg := .ref sa) rfl
    (g := { method := m, pc := pc + 7, locals := ls, stack := .ref sa :: .ref T.heap.size :: .ref T.heap.size :: rest, locked := none }) rfl hsize rfl rfl (rest := rest) rfl
    (by rw [hb]; exact d7) (by rw [hb]; exact d10) hout hRframes (by simp only [List.map_cons, List.sum_cons, hcat]; omega) hlocks
  obtain ⟨f1, f2⟩ := vx_frame hsame
  rw [hhp] at f1 f2
  have hWs : s.WarmedH U.vm := State.WarmedH.trans hW0 hW
  have hcl : s.vm.findClass cls = some ce.cls := by
    have h9 := hO.cls
    rw [hvm] at h9
    exact h9
  have hall : s.sameButNew ({ U with vm := s.vm } : State) locs mc ms := by
    subst hA
    obtain ⟨e1, e2⟩ := hsame
    rw [State.setFrames_setFrames] at e1
    have h2 : (T.setVm s.vm).sameButNew ({ U with vm := s.vm } : State) [] (0 + 1) (0 + 6) := ⟨e1, e2⟩
    have h3 := X.same.trans h2
    rw [List.append_nil] at h3
    exact h3.mono hc hs
  refine ⟨U, ?_, .threw T.heap.size, hrun, hend, Or.inr ⟨T.heap.size, rfl, cls, ce, locs, hx U hWs.alike f1 (fun q hq => f2 q hq (fun z hz => nomatch hz)), hce, hO.vm, hcl, hWs, hall, hf⟩⟩
  refine st1 _ ?_
  show Steps p.tables e below (T1.setTop { method := m, pc := pc + 3, locals := ls, stack := .ref T.heap.size :: rest, locked := none }) _
  jvm_step X₁.here [X₁.here.top, hexec, d3', Value.category]
  exact X₁.ldcStringW hexec (own := own) (text := text) (index := is) (a := sa) hown' hstr'.1 hstr'.2
    (g := { method := m, pc := pc + 4, locals := ls, stack := .ref T.heap.size :: .ref T.heap.size :: rest, locked := none }) rfl d4' _ hsteps
end Ends
section Bodies
variable {l : Launch}
theorem vx_ofW {y : MethodName} {ws ws' : List Cond} {rm : Room} {Pc : Array Value → State → Prop} {Qc : Array Value → State → Outcome → State → Prop} {XC : String → State → State → Prop} {mc ms : Nat} {free : Addr → Prop} {cc : ByteArray} {maxL : Nat} {ret : Option FieldType}
    (hy : plainName y.cls = true) (hw : ws = Cond.code y cc maxL ret :: ws')
    (body : ∀ p e s m args below meth c s₁, BodyLoose p l y (headSpec ws rm) cc maxL ret e s m args below meth c s₁ → c.maxLocals = maxL → (∀ x ∈ c.exceptionTable.toList, False) → Pc args s →
      W p l e (headSpec ws rm).room s m args below meth c s.heap [] 0 0 (vx_MQ below Qc XC args s mc ms free) (entryFrame m args maxL)) : vx_Met l y ws rm Pc Qc XC mc ms free := by
  refine MetFree.of_bodyS (code := cc) (maxLocals := maxL) (ret := ret) hy ?_ ?_
  · intro args s m h hn
    obtain ⟨meth, c, h1, h2, h3, h4, h5, h6, -, -⟩ := Cond.code_spec hn (atoms_spec (ws := ws) h _ (by rw [hw]; exact List.mem_cons_self))
    exact ⟨meth, c, h1, h2, h3, h4, h5, h6⟩
  · intro p e s m args below meth c s₁ B hml hP _
    have hh0 : s₁.heap = s.heap := by rw [B.state]; rfl
    have ht : ∀ x ∈ c.exceptionTable.toList, False := by
      obtain ⟨meth9, c9, h1, h2, -, -, -, -, h7, -⟩ := Cond.code_spec B.named (atoms_spec (ws := ws) B.pre _ (by rw [hw]; exact List.mem_cons_self))
      cases Option.some.inj (h1.symm.trans B.method)
      cases Option.some.inj (h2.symm.trans (Stand.of_body B).code)
      intro x hx
      rw [Array.isEmpty_iff.mp h7] at hx
      cases hx
    obtain ⟨t, a1, o, b1, b2, b3⟩ := body p e s m args below meth c s₁ B hml ht hP s₁ hh0 (Stand.of_body B)
    exact ⟨t, o, a1, b1, b2, b3⟩
/-- the table of a body with handlers -/
theorem vx_table {p : Program} {x y : MethodName} {S : Spec} {cc bytes : ByteArray} {maxL maxL' : Nat} {ret ret' : Option FieldType} {e : Env} {s s₁ : State} {m : MethodId} {args : Array Value} {below : List Frame} {meth : Method} {c : Code} {hh : List (Nat × Nat × Nat × Nat)}
    (B : BodyLoose p l y S cc maxL ret e s m args below meth c s₁) (h : (Cond.codeWith y bytes maxL' ret' hh).before args s = true) : c.exceptionTable.toList = tableOf hh := by
  obtain ⟨m9, meth9, c9, hn9, h1, h2, -, -, h6, -⟩ := Cond.codeWith_spec h
  cases Option.some.inj (hn9.symm.trans B.named)
  cases Option.some.inj (h1.symm.trans B.method)
  cases Option.some.inj (h2.symm.trans (Stand.of_body B).code)
  rw [← h6, table_eq]
end Bodies
end VXA
/-! ===== END ===== -/
/-! ===== BEGIN a static call of a method with an exception table ===== -/
section VXS
variable {p : Program} {l : Launch} {e : Env} {R : Room} {s : State} {m : MethodId} {args : Array Value} {below : List Frame} {meth : Method} {c : Code} {T : State} {H : Heap} {locs : List Loc} {cells slots : Nat}
abbrev vx_CSW (R : Room) (s : State) (args : Array Value) (own : String) (index : Nat) (y : MethodName) (bytes : ByteArray) (maxL : Nat) (ret : Option FieldType) (hh : List (Nat × Nat × Nat × Nat)) (ws : List Cond) (rm : Room) (mc ms n : Nat) : Prop :=
  (rm.cells = mc ∧ rm.slots = ms ∧ rm.frames + 1 ≤ R.frames ∧ 8 + (maxL + 11) + rm.locals ≤ R.locals ∧ (∀ w ∈ ws, ∀ (a' : Array Value) (U : State), s.WarmedH U.vm → w.before a' U = true) ∧ Cond.codeWith y bytes maxL ret hh ∈ ws) ∧
  (Cond.codeWith y bytes maxL ret hh).before args s = true ∧ (Cond.initialized y.cls).before args s = true ∧ (y.cls ≠ "java/lang/invoke/MethodHandle" ∧ y.cls ≠ "java/lang/invoke/VarHandle") ∧
  (∀ sig, parseMethodDescriptor y.desc = some sig → n = sig.parameters.length) ∧ (Cond.methodLink own index y).before args s = true ∧ (Cond.static y).before args s = true
theorem vx_cwSW {own : String} {index maxL mc ms : Nat} {y : MethodName} {bytes : ByteArray} {ret : Option FieldType} {hh : List (Nat × Nat × Nat × Nat)} {Ts ws ws' : List Cond} {rm : Room} (n : Nat) (ht : ∀ w ∈ Ts, w.before args s = true) (hT : GoodIn Ts (va_wsS own index y ws)) (hw : ws = Cond.codeWith y bytes maxL ret hh :: ws') (hrc : rm.cells = mc) (hrs : rm.slots = ms)
    (hd : y.cls ≠ "java/lang/invoke/MethodHandle" ∧ y.cls ≠ "java/lang/invoke/VarHandle" ∧ (parseMethodDescriptor y.desc).map (fun d => d.parameters.length) = some n) (hR : rm.frames + 1 ≤ R.frames ∧ 8 + (maxL + 11) + rm.locals ≤ R.locals) :
    vx_CSW R s args own index y bytes maxL ret hh ws rm mc ms n := by
  have ok : ∀ w ∈ va_wsS own index y ws, w.before args s = true := fun w h => ht w (hT w h).1
  have hG : GoodIn Ts ws := fun w h => hT w (by unfold va_wsS; exact List.mem_append_right _ h)
  have hc : Cond.codeWith y bytes maxL ret hh ∈ ws := by rw [hw]; exact List.mem_cons_self
  refine ⟨⟨hrc, hrs, hR.1, hR.2, pay_in ht hG, hc⟩, ht _ (hG _ hc).1, ok _ (by simp [va_wsS]), ⟨hd.1, hd.2.1⟩, fun sig h => ?_, ok _ (by simp [va_wsS]), ok _ (by simp [va_wsS])⟩
  have h2 := hd.2.2
  rw [h] at h2
  exact (Option.some.inj h2).symm
theorem vx_callSW (X : Stand p l e R s m args below meth c T locs cells slots) (hexec : p.tables.exec = Jvm.exec) {own : String} {index : Nat} {y : MethodName} {bytes : ByteArray} {maxL : Nat} {ret : Option FieldType} {hh : List (Nat × Nat × Nat × Nat)}
    (hown : s.vm.findClass own = some m.cls) (hlink : (Cond.methodLink own index y).before args s = true) (hstat : (Cond.static y).before args s = true) (hinit : (Cond.initialized y.cls).before args s = true)
    (hcode : (Cond.codeWith y bytes maxL ret hh).before args s = true) (hy : y.cls ≠ "java/lang/invoke/MethodHandle" ∧ y.cls ≠ "java/lang/invoke/VarHandle")
    {W9 : Nat} {Pre : Pt → Array Value → Prop} {Post : Pt → Array Value → Option Value → Pt → Prop} (hK : Back l R p e below s args y 3 W9 Pre Post)
    {g : JFrame} (hg : g.method = m) (hsize : g.locals.size = c.maxLocals) {argsL rest : List Value} (hlen : ∀ sig, parseMethodDescriptor y.desc = some sig → argsL.length = sig.parameters.length)
    (hstack : g.stack = argsL.reverse ++ rest) (hW : 2 * g.monitorRoom + (rest.map fun v => v.category).sum ≤ W9) (hdg : decode c.code g.pc = .ok (.invokestatic index, 3))
    (hpre : ∀ vm₁, s.WarmedH vm₁ → Pre ⟨T.setVm vm₁, locs, cells, slots⟩ argsL.toArray) :
    ∃ (v : Option Value) (vm₁ : Vm) (B : Pt), s.WarmedH vm₁ ∧ Stand p l e R s m args below meth c B.U B.locs B.cells B.slots ∧ Post ⟨T.setVm vm₁, locs, cells, slots⟩ argsL.toArray v B ∧
      ∀ target, Steps p.tables e below (B.U.setTop { g with pc := g.pc + 3, stack := v.toList ++ rest }) target → Steps p.tables e below (T.setTop g) target := by
  obtain ⟨mk, methM, cM, hnamed, hmethM, -, -, -, -, -, -, hsigM⟩ := Cond.codeWith_spec hcode
  have hstatic : methM.isStatic = true := Cond.static_spec hnamed hmethM hstat
  obtain ⟨kP, hkP, -⟩ := className_of_methodNamed hnamed
  have hinitP : kP.init = .initialized := Cond.initialized_spec (findClass_of_methodNamed hnamed) hkP hinit
  obtain ⟨vm₁, X₁, hstep₁⟩ := X.invokestatic hexec hown hlink hnamed hmethM hstatic hkP hinitP hy (g := g) hg (argsL := argsL) (rest := rest) (hlen _ hsigM) hstack hdg
  obtain ⟨v, B, X', hpost, hsteps⟩ := hK m meth c ⟨T.setVm vm₁, locs, cells, slots⟩ { g with stack := rest } (.invokestatic index) mk argsL.toArray X₁ hg hsize hdg hW (X₁.named hnamed) (hpre vm₁ X₁.warmed)
  exact ⟨v, vm₁, B, X₁.warmed, X', hpost, fun target h => hstep₁ _ fun acts => by rw [doInvoke_state]; exact hsteps.trans h⟩
theorem vx_runSW {y : MethodName} {bytes cc : ByteArray} {maxL nL mc ms n index : Nat} {ret : Option FieldType} {hh : List (Nat × Nat × Nat × Nat)} {ws : List Cond} {rm : Room} {Pc : Array Value → State → Prop} {Qc : Array Value → State → Outcome → State → Prop} {free : Addr → Prop} {Ts : List Cond} {own : String} {As rest : List Value} {g : JFrame}
    (S : CallFix p m c cc nL s args Ts own) (hM : Met l y ws rm Pc Qc mc ms free) (cw : vx_CSW R s args own index y bytes maxL ret hh ws rm mc ms n) (hp : PreS s H Pc As)
    (hg : g.method = m) (hn : As.length = n) (hsize : g.locals.size = nL) (hstack : g.stack = As.reverse ++ rest) (hW : 2 * g.monitorRoom + (rest.map fun v => v.category).sum ≤ 8) (hdg : decode cc g.pc = .ok (.invokestatic index, 3)) (hf : cells + mc ≤ R.cells ∧ slots + ms ≤ R.slots) :
    va_Run p l e R s m args below meth c H locs cells slots mc ms g rest (Qc As.toArray) (free) := by
  obtain ⟨⟨hrc, hrs, hfr, hlo, hws, hcw⟩, hcode, hini, hy, hlen, hl, hstt⟩ := cw
  have hK : Back l R p e below s args y 3 8 (PreOf R mc ms Pc) (PostOf Qc mc ms free) := va_backW (hh := hh) (bytes := bytes) (maxL := maxL) (ret := ret) hM hp.1 hrc hrs hfr hlo hws hcw (fun a' U hW => word_at hW (Or.inl (by first | rfl | simp [Cond.onTables, Cond.keeps, Cond.steady])) hini)
  obtain ⟨hx, hb, hml, ho, -⟩ := S
  intro T hT X
  obtain ⟨v, vm₁, ⟨U', l2, c2, s2⟩, hW₁, X', ⟨g', mk, t, L, e1, e2, hq, h1, hL, h2, h3⟩, st⟩ := vx_callSW X hx (hh := hh) (bytes := bytes) (maxL := maxL) (ret := ret) ho hl hstt hini hcode hy hK hg (hsize.trans hml.symm) (argsL := As) (rest := rest) (fun sig h => hn.trans (hlen sig h)) hstack hW (by rw [hb]; exact hdg)
    (fun vm₁ hW₁ => ⟨hf.1, hf.2, hp.2 (T.setVm vm₁) hT hW₁⟩)
  dsimp only [Pt.U, Pt.locs, Pt.cells, Pt.slots] at X' e1 e2 h1 h2 h3 st
  subst h1; subst h2; subst h3
  exact ⟨v, (T.setVm vm₁).calling g' mk As.toArray, t, U', L, hT, X', hL, e1, e2, hq, st⟩
/-- not caught here, past rows that name other classes: it goes on to the caller -/
theorem vx_outP {p : Program} {l : Launch} {e : Env} {R : Room} {s : State} {m : MethodId} {args : Array Value} {below : List Frame} {meth : Method} {c : Code} {H : Heap} {locs : List Loc} {cells slots : Nat} {free : Addr → Prop} {ls : Array Slot} {rest : List Value} {Qc : Array Value → State → Outcome → State → Prop} {XC : String → State → State → Prop}
    {pc : Nat} {own E : String} {ce : Cell} {q : Addr} {mc ms : Nat} (hown : s.vm.findClass own = some m.cls) (hlocks : meth.locks = false)
    (hpass : ∀ z ∈ c.exceptionTable.toList, covers z pc = false ∨ (z.catchType ≠ 0 ∧ ∃ nm : String, (Cond.classLink own z.catchType nm).before args s = true ∧ va_Nc E nm s)) (hcell : H[q]? = some ce) (hv : ce.vm = .none) (hcl : s.vm.findClass E = some ce.cls)
    (hx : ∀ t : State, t.heap = H → s.vm.Alike t.vm → XC E s t) (hf : ∀ z ∈ locs, free z.base) (hc : cells ≤ mc) (hs : slots ≤ ms) :
    vx_W p l e R s m args below meth c H locs cells slots (vx_MQ below Qc XC args s mc ms free) (F0 m pc ls rest) q := by
  intro T hT X
  have hpl : e.platform.magicAccessors = ({} : Platform).magicAccessors := by rw [X.admits.platform]
  obtain ⟨vm', hW', X', st⟩ := X.outThrough hlocks q (g := F0 m pc ls rest) rfl rfl rfl (cell := ce) (by rw [hT]; exact hcell) (by rw [hv]; rfl)
    (by obtain ⟨k9, h9, -⟩ := Vm.findClass_spec hcl; exact ⟨k9, h9⟩) (fun z hz => by
      rcases hpass z hz with h | ⟨hz0, nm, hl1, hn1⟩
      · exact Or.inl h
      · obtain ⟨c6, hc6, hcl6⟩ := Cond.classLink_spec hown hl1 e.platform hpl
        obtain ⟨a8, b8, h1, h2, h3⟩ := hn1
        cases Option.some.inj (h1.symm.trans hcl)
        cases Option.some.inj (h2.symm.trans hc6)
        exact Or.inr ⟨hz0, _, hcl6, h3⟩)
  obtain ⟨g₀, hfr⟩ := X'.frames_eq
  have hcell9 : ((T.setVm vm').setFrames (.throwing q :: below)).heap[q]? = some ce := by
    show T.heap[q]? = some ce
    rw [hT]; exact hcell
  have hend : Ended ((T.setVm vm').setFrames (.throwing q :: below)) below (.threw q) := State.frames_setFrames _ (State.cur_lt_of_frames hfr)
  refine ⟨(T.setVm vm').setFrames (.throwing q :: below), ?_, .threw q, X'.here.running, hend, Or.inr ⟨q, rfl, E, ce, locs, hx _ hT (X'.ends _).1.alike, hcell9, hv, hcl, (X'.ends _).1, (X'.ends _).2.mono hc hs, hf⟩⟩
  rw [X.pushThrowing_eq]
  exact st
/-- a thing of a world lies in the heap -/
theorem vx_lt {D : va_G} {cl : List vw_C} {ws : va_W} {H1 : Heap} (h : va_P D cl ws H1) {k : Nat} {q : Nat × va_E} (hk : ws[k]? = some q) : q.1 < H1.size := (h k q hk).lt
end VXS
/-! ===== END ===== -/
/-! ===== BEGIN methods with a table of their own: called by a name, returning or throwing ===== -/
section VXH
/-! vx_backW, vx_callVX, vx_callSX, vx_callVW, vx_runVW, vx_runVX, vx_runSX, vx_ofWH follow the same proofs as their sisters above (Free/Laws.lean, Shelf42/LK1.lean); vx_outP calls Shelf42/NT130.lean (outThrough). -/
section
variable {l : Launch} {R : Room} {p : Program} {e : Env} {below : List Frame} {s : State} {sargs : Array Value} {y : MethodName} {len W9 : Nat}
theorem vx_backW {ws : List Cond} {rm : Room} {Pc : Array Value → State → Prop} {Qc : Array Value → State → Outcome → State → Prop} {XC : String → State → State → Prop} {mc ms : Nat} {free : Addr → Prop} {bytes : ByteArray} {maxL : Nat} {ret : Option FieldType} {hh : List (Nat × Nat × Nat × Nat)}
    (hM : vx_Met l y ws rm Pc Qc XC mc ms free) (hblind : FrameBlind Pc) (hrc : rm.cells = mc) (hrs : rm.slots = ms)
    (hframes : rm.frames + 1 ≤ R.frames) (hlocals : W9 + (maxL + 11) + rm.locals ≤ R.locals)
    (hws : ∀ w ∈ ws, ∀ a' U, s.WarmedH U.vm → w.before a' U = true) (hcode : Cond.codeWith y bytes maxL ret hh ∈ ws) (hinit : ∀ a' U, s.WarmedH U.vm → (Cond.initialized y.cls).before a' U = true) :
    vx_Back l R p e below s sargs y len W9 (PreOf R mc ms Pc) (PostOf Qc mc ms free) (vx_Post XC mc ms free) := by
  intro m meth c A g ig mk a X hg hsize hdg hW hn hp
  have h1 : (headSpec ws rm).pre.before a A.U = true := atoms_intro fun w hw => hws w hw _ _ X.warmed
  have h2 : (Cond.codeWith y bytes maxL ret hh).before a A.U = true := hws _ hcode _ _ X.warmed
  have h3 : (Cond.initialized y.cls).before a A.U = true := hinit _ _ X.warmed
  have h4 : A.cells + (headSpec ws rm).room.cells ≤ R.cells := by rw [show (headSpec ws rm).room.cells = mc from hrc]; exact hp.1
  have h5 : A.slots + (headSpec ws rm).room.slots ≤ R.slots := by rw [show (headSpec ws rm).room.slots = ms from hrs]; exact hp.2.1
  have hPc : Pc a (A.U.calling g mk a) := hblind _ _ _ _ hp.2.2
  obtain ⟨U, Ls, c0, s0⟩ := A
  dsimp only [Pt.U, Pt.locs, Pt.cells, Pt.slots] at h1 h2 h3 h4 h5 X hn hPc ⊢
  obtain ⟨m9, methY, cY, hn9, hmY, hcY, -, hlY, -⟩ := Cond.codeWith_spec h2
  cases Option.some.inj (hn9.symm.trans hn)
  obtain ⟨kY, hkY, -⟩ := className_of_methodNamed hn
  have hinitY : kY.init = .initialized := Cond.initialized_spec (findClass_of_methodNamed hn) hkY h3
  have h : At U g.method c below := by rw [hg]; exact X.here
  have hlocals9 : W9 + (maxL + 11) + (headSpec ws rm).room.locals ≤ R.locals := hlocals
  have happ : (headSpec ws rm).appliesLoose y e.platform (U.calling g mk a) = true :=
    Spec.appliesLoose_calling (g := g) h hdg hn hkY hinitY
      (X.room_calling (g := g) (R' := (headSpec ws rm).room) hsize hmY hcY hframes (by rw [hlY]; omega) h4 h5) h1
  obtain ⟨mid, hmid⟩ := h.above
  have hfr : (U.setTop g).frames = (.java g :: mid) ++ below := by rw [State.frames_setTop' g h.top, hmid]; rfl
  obtain ⟨o, s₂, hsteps, -, hend, hq⟩ := Steps.callFree hM p X.admits X.cas X.clock (acts := []) hfr happ hPc trivial
  have hq' : vx_Q Qc XC mc ms free a (U.calling g mk a) o s₂ := hq
  rw [State.frames_setTop' g h.top] at hend
  obtain ⟨g₀, hg0⟩ := Option.isSome_iff_exists.mp h.top
  obtain ⟨r, hr⟩ := State.topJava?_eq_some.mp hg0
  have hr' : (({ U with heap := s₂.heap, slotsUsed := s₂.slotsUsed } : State).setVm s₂.vm).frames = .java g₀ :: r := hr
  rcases hq' with ⟨hqc, L, hfe, hL⟩ | ⟨q, rfl, E, ce, L, hx, hce, hcv, hcl, hW₂, hsm, hL⟩
  · obtain ⟨⟨v, rfl⟩, hW₂, e2, q2, q3, q4, q5, q6⟩ := id hfe
    have e3 : s₂ = ({ (U.calling g mk a).setFrames s₂.frames with heap := s₂.heap, slotsUsed := s₂.slotsUsed } : State).setVm s₂.vm := by
      have : s₂ = ({ s₂ with vm := (U.calling g mk a).vm } : State).setVm s₂.vm := rfl
      rw [e2] at this
      exact this
    obtain ⟨c₂, i₂, len₂, hc₂, hd₂, hf₂⟩ := hend
    have hW' : U.WarmedH s₂.vm := hW₂
    have hcc : c₂ = c := by
      have h1 : s₂.code? g.method = U.code? g.method := by
        rw [State.code?_eq, State.code?_eq, hW'.alike.method?]
      exact Option.some.inj (hc₂.symm.trans (h1.trans h.code))
    subst hcc
    have hlen : len₂ = len := by rw [hdg] at hd₂; cases hd₂; rfl
    subst hlen
    have hs₂ : s₂ = (({ U with heap := s₂.heap, slotsUsed := s₂.slotsUsed } : State).setVm s₂.vm).setTop { g with pc := g.pc + len₂, stack := v.toList ++ g.stack } := by
      refine e3.trans ?_
      rw [hf₂, State.calling_eq h.top, State.setFrames_setFrames, State.setTop_of_frames _ hr', hr]
      rfl
    have hsame : U.sameButNew ({ U with heap := s₂.heap, slotsUsed := s₂.slotsUsed } : State) L mc ms := by
      refine ⟨?_, q2, q3, q4, q5, q6⟩
      obtain ⟨t, ht, -⟩ := State.frames_cons hr
      show ({ U with heap := s₂.heap, slotsUsed := s₂.slotsUsed } : State) = { U.setFrames U.frames with heap := s₂.heap, slotsUsed := s₂.slotsUsed }
      rw [State.setFrames_self ht]
    subst hg
    refine Or.inl ⟨v, ⟨(({ U with heap := s₂.heap, slotsUsed := s₂.slotsUsed } : State).setVm s₂.vm), Ls ++ L, c0 + mc, s0 + ms⟩,
      ⟨X.admits, X.cas, X.clock, X.frames, X.room, X.hears, X.method, X.code, (X.here.setHeapUsed s₂.heap s₂.slotsUsed).setVm hW'.alike, X.tail, State.WarmedH.trans X.warmed hW', X.limits, X.bytes, X.same.trans (hsame.setVm s.vm)⟩,
      ⟨g, mk, s₂, L, rfl, rfl, hqc, rfl, hL, rfl, rfl⟩, ?_⟩
    show Steps p.tables e below _ ((({ U with heap := s₂.heap, slotsUsed := s₂.slotsUsed } : State).setVm s₂.vm).setTop { g with pc := g.pc + len₂, stack := v.toList ++ g.stack })
    rw [← hs₂]
    exact hsteps
  · obtain ⟨e2, q2, q3, q4, q5, q6⟩ := id hsm
    have e3 : s₂ = ({ (U.calling g mk a).setFrames s₂.frames with heap := s₂.heap, slotsUsed := s₂.slotsUsed } : State).setVm s₂.vm := by
      have : s₂ = ({ s₂ with vm := (U.calling g mk a).vm } : State).setVm s₂.vm := rfl
      rw [e2] at this
      exact this
    have hf₂ : s₂.frames = .throwing q :: .java g :: U.frames.tail := hend
    have hW' : U.WarmedH s₂.vm := hW₂
    have hs₂ : s₂ = ((({ U with heap := s₂.heap, slotsUsed := s₂.slotsUsed } : State).setVm s₂.vm).setTop g).pushFrame (.throwing q) := by
      refine e3.trans ?_
      rw [hf₂, State.calling_eq h.top, State.setFrames_setFrames, State.pushFrame, State.frames_setTop _ hr', State.setTop_of_frames _ hr', State.setFrames_setFrames, hr]
      rfl
    have hsame : U.sameButNew ({ U with heap := s₂.heap, slotsUsed := s₂.slotsUsed } : State) L mc ms := by
      refine ⟨?_, q2, q3, q4, q5, q6⟩
      obtain ⟨t, ht, -⟩ := State.frames_cons hr
      show ({ U with heap := s₂.heap, slotsUsed := s₂.slotsUsed } : State) = { U.setFrames U.frames with heap := s₂.heap, slotsUsed := s₂.slotsUsed }
      rw [State.setFrames_self ht]
    subst hg
    refine Or.inr ⟨q, ⟨(({ U with heap := s₂.heap, slotsUsed := s₂.slotsUsed } : State).setVm s₂.vm), Ls ++ L, c0 + mc, s0 + ms⟩,
      ⟨X.admits, X.cas, X.clock, X.frames, X.room, X.hears, X.method, X.code, (X.here.setHeapUsed s₂.heap s₂.slotsUsed).setVm hW'.alike, X.tail, State.WarmedH.trans X.warmed hW', X.limits, X.bytes, X.same.trans (hsame.setVm s.vm)⟩,
      ⟨g, mk, s₂, L, E, ce, rfl, rfl, hx, hce, hcv, hcl, rfl, hL, rfl, rfl⟩, ?_⟩
    show Steps p.tables e below _ (((({ U with heap := s₂.heap, slotsUsed := s₂.slotsUsed } : State).setVm s₂.vm).setTop g).pushFrame (.throwing q))
    rw [← hs₂]
    exact hsteps
end
variable {p : Program} {l : Launch} {e : Env} {R : Room} {s : State} {m : MethodId} {args : Array Value} {below : List Frame} {meth : Method} {c : Code} {T : State} {H : Heap} {locs : List Loc} {cells slots : Nat}
theorem vx_callVX (X : Stand p l e R s m args below meth c T locs cells slots) (hexec : p.tables.exec = Jvm.exec) {own C : String} {index : Nat} {y : MethodName} {bytes : ByteArray} {maxL : Nat} {ret : Option FieldType} {hh : List (Nat × Nat × Nat × Nat)}
    (hown : s.vm.findClass own = some m.cls) (hlink : (Cond.methodLink own index y).before args s = true) (hinst : (Cond.instanceMethod y).before args s = true) (hsel : (Cond.selects C y y).before args s = true)
    (hcode : (Cond.codeWith y bytes maxL ret hh).before args s = true) (hy : y.cls ≠ "java/lang/invoke/MethodHandle" ∧ y.cls ≠ "java/lang/invoke/VarHandle")
    {W9 : Nat} {Pre : Pt → Array Value → Prop} {Post : Pt → Array Value → Option Value → Pt → Prop} {PostX : Pt → Array Value → Addr → Pt → Prop} (hK : vx_Back l R p e below s args y 3 W9 Pre Post PostX)
    {b : Addr} {cellB : Cell} (hcell : T.heap[b]? = some cellB) (hobj : cellB.vm.isStatics = false) (hcls : s.vm.findClass C = some cellB.cls)
    {g : JFrame} (hg : g.method = m) (hsize : g.locals.size = c.maxLocals) {argsL rest : List Value} (hlen : ∀ sig, parseMethodDescriptor y.desc = some sig → argsL.length = sig.parameters.length)
    (hstack : g.stack = argsL.reverse ++ .ref b :: rest) (hW : 2 * g.monitorRoom + (rest.map fun v => v.category).sum ≤ W9) (hdg : decode c.code g.pc = .ok (.invokevirtual index, 3))
    (hpre : ∀ vm₁, s.WarmedH vm₁ → Pre ⟨T.setVm vm₁, locs, cells, slots⟩ (Value.ref b :: argsL).toArray) :
    (∃ (v : Option Value) (vm₁ : Vm) (B : Pt), s.WarmedH vm₁ ∧ Stand p l e R s m args below meth c B.U B.locs B.cells B.slots ∧ Post ⟨T.setVm vm₁, locs, cells, slots⟩ (Value.ref b :: argsL).toArray v B ∧
      ∀ target, Steps p.tables e below (B.U.setTop { g with pc := g.pc + 3, stack := v.toList ++ rest }) target → Steps p.tables e below (T.setTop g) target) ∨
    (∃ (q : Addr) (vm₁ : Vm) (B : Pt), s.WarmedH vm₁ ∧ Stand p l e R s m args below meth c B.U B.locs B.cells B.slots ∧ PostX ⟨T.setVm vm₁, locs, cells, slots⟩ (Value.ref b :: argsL).toArray q B ∧
      Steps p.tables e below (T.setTop g) ((B.U.setTop { g with stack := rest }).pushFrame (.throwing q))) := by
  obtain ⟨mk, methM, hnamed, hmethM, hstM, habM⟩ := Cond.instanceMethod_spec hinst
  obtain ⟨m8, methM', cM, hn8, hmethM', -, -, -, -, -, -, hsigM⟩ := Cond.codeWith_spec hcode
  cases Option.some.inj (hn8.symm.trans hnamed)
  cases hmethM.symm.trans hmethM'
  obtain ⟨c2, r2, m2, q1, q2, q3, q4, kP, hkP, hkPi⟩ := Cond.selects_spec hsel
  cases hcls.symm.trans q1
  cases (State.methodFound?_of_named hnamed hy).symm.trans q2
  cases hnamed.symm.trans q3
  have hselP : selectMethod e.platform s.vm cellB.cls mk = .method mk := by rw [Launch.admits_selectMethod X.admits]; exact q4
  obtain ⟨vm₁, X₁, hstep₁⟩ := X.invokevirtual hexec hown hlink hnamed hmethM hstM hkP hkPi hy (a := b) (cell := cellB) hcell
    (fun z h => by rw [h] at hobj; cases hobj) hselP hmethM habM hkP hkPi (g := g) hg (argsL := argsL) (rest := rest) (hlen _ hsigM) hstack hdg
  rcases hK m meth c ⟨T.setVm vm₁, locs, cells, slots⟩ { g with stack := rest } (.invokevirtual index) mk (Value.ref b :: argsL).toArray X₁ hg hsize hdg hW (X₁.named hnamed) (hpre vm₁ X₁.warmed) with ⟨v, B, X', hpost, hsteps⟩ | ⟨q, B, X', hpost, hsteps⟩
  · exact Or.inl ⟨v, vm₁, B, X₁.warmed, X', hpost, fun target h => hstep₁ _ fun acts => by rw [doInvoke_state]; exact hsteps.trans h⟩
  · exact Or.inr ⟨q, vm₁, B, X₁.warmed, X', hpost, hstep₁ _ fun acts => by rw [doInvoke_state]; exact hsteps⟩
theorem vx_callSX (X : Stand p l e R s m args below meth c T locs cells slots) (hexec : p.tables.exec = Jvm.exec) {own : String} {index : Nat} {y : MethodName} {bytes : ByteArray} {maxL : Nat} {ret : Option FieldType} {hh : List (Nat × Nat × Nat × Nat)}
    (hown : s.vm.findClass own = some m.cls) (hlink : (Cond.methodLink own index y).before args s = true) (hstat : (Cond.static y).before args s = true) (hinit : (Cond.initialized y.cls).before args s = true)
    (hcode : (Cond.codeWith y bytes maxL ret hh).before args s = true) (hy : y.cls ≠ "java/lang/invoke/MethodHandle" ∧ y.cls ≠ "java/lang/invoke/VarHandle")
    {W9 : Nat} {Pre : Pt → Array Value → Prop} {Post : Pt → Array Value → Option Value → Pt → Prop} {PostX : Pt → Array Value → Addr → Pt → Prop} (hK : vx_Back l R p e below s args y 3 W9 Pre Post PostX)
    {g : JFrame} (hg : g.method = m) (hsize : g.locals.size = c.maxLocals) {argsL rest : List Value} (hlen : ∀ sig, parseMethodDescriptor y.desc = some sig → argsL.length = sig.parameters.length)
    (hstack : g.stack = argsL.reverse ++ rest) (hW : 2 * g.monitorRoom + (rest.map fun v => v.category).sum ≤ W9) (hdg : decode c.code g.pc = .ok (.invokestatic index, 3))
    (hpre : ∀ vm₁, s.WarmedH vm₁ → Pre ⟨T.setVm vm₁, locs, cells, slots⟩ argsL.toArray) :
    (∃ (v : Option Value) (vm₁ : Vm) (B : Pt), s.WarmedH vm₁ ∧ Stand p l e R s m args below meth c B.U B.locs B.cells B.slots ∧ Post ⟨T.setVm vm₁, locs, cells, slots⟩ argsL.toArray v B ∧
      ∀ target, Steps p.tables e below (B.U.setTop { g with pc := g.pc + 3, stack := v.toList ++ rest }) target → Steps p.tables e below (T.setTop g) target) ∨
    (∃ (q : Addr) (vm₁ : Vm) (B : Pt), s.WarmedH vm₁ ∧ Stand p l e R s m args below meth c B.U B.locs B.cells B.slots ∧ PostX ⟨T.setVm vm₁, locs, cells, slots⟩ argsL.toArray q B ∧
      Steps p.tables e below (T.setTop g) ((B.U.setTop { g with stack := rest }).pushFrame (.throwing q))) := by
  obtain ⟨mk, methM, cM, hnamed, hmethM, -, -, -, -, -, -, hsigM⟩ := Cond.codeWith_spec hcode
  have hstatic : methM.isStatic = true := Cond.static_spec hnamed hmethM hstat
  obtain ⟨kP, hkP, -⟩ := className_of_methodNamed hnamed
  have hinitP : kP.init = .initialized := Cond.initialized_spec (findClass_of_methodNamed hnamed) hkP hinit
  obtain ⟨vm₁, X₁, hstep₁⟩ := X.invokestatic hexec hown hlink hnamed hmethM hstatic hkP hinitP hy (g := g) hg (argsL := argsL) (rest := rest) (hlen _ hsigM) hstack hdg
  rcases hK m meth c ⟨T.setVm vm₁, locs, cells, slots⟩ { g with stack := rest } (.invokestatic index) mk argsL.toArray X₁ hg hsize hdg hW (X₁.named hnamed) (hpre vm₁ X₁.warmed) with ⟨v, B, X', hpost, hsteps⟩ | ⟨q, B, X', hpost, hsteps⟩
  · exact Or.inl ⟨v, vm₁, B, X₁.warmed, X', hpost, fun target h => hstep₁ _ fun acts => by rw [doInvoke_state]; exact hsteps.trans h⟩
  · exact Or.inr ⟨q, vm₁, B, X₁.warmed, X', hpost, hstep₁ _ fun acts => by rw [doInvoke_state]; exact hsteps⟩
theorem vx_callVW (X : Stand p l e R s m args below meth c T locs cells slots) (hexec : p.tables.exec = Jvm.exec) {own C : String} {index : Nat} {y : MethodName} {bytes : ByteArray} {maxL : Nat} {ret : Option FieldType} {hh : List (Nat × Nat × Nat × Nat)}
    (hown : s.vm.findClass own = some m.cls) (hlink : (Cond.methodLink own index y).before args s = true) (hinst : (Cond.instanceMethod y).before args s = true) (hsel : (Cond.selects C y y).before args s = true)
    (hcode : (Cond.codeWith y bytes maxL ret hh).before args s = true) (hy : y.cls ≠ "java/lang/invoke/MethodHandle" ∧ y.cls ≠ "java/lang/invoke/VarHandle")
    {W9 : Nat} {Pre : Pt → Array Value → Prop} {Post : Pt → Array Value → Option Value → Pt → Prop} (hK : Back l R p e below s args y 3 W9 Pre Post)
    {b : Addr} {cellB : Cell} (hcell : T.heap[b]? = some cellB) (hobj : cellB.vm.isStatics = false) (hcls : s.vm.findClass C = some cellB.cls)
    {g : JFrame} (hg : g.method = m) (hsize : g.locals.size = c.maxLocals) {argsL rest : List Value} (hlen : ∀ sig, parseMethodDescriptor y.desc = some sig → argsL.length = sig.parameters.length)
    (hstack : g.stack = argsL.reverse ++ .ref b :: rest) (hW : 2 * g.monitorRoom + (rest.map fun v => v.category).sum ≤ W9) (hdg : decode c.code g.pc = .ok (.invokevirtual index, 3))
    (hpre : ∀ vm₁, s.WarmedH vm₁ → Pre ⟨T.setVm vm₁, locs, cells, slots⟩ (Value.ref b :: argsL).toArray) :
    ∃ (v : Option Value) (vm₁ : Vm) (B : Pt), s.WarmedH vm₁ ∧ Stand p l e R s m args below meth c B.U B.locs B.cells B.slots ∧ Post ⟨T.setVm vm₁, locs, cells, slots⟩ (Value.ref b :: argsL).toArray v B ∧
      ∀ target, Steps p.tables e below (B.U.setTop { g with pc := g.pc + 3, stack := v.toList ++ rest }) target → Steps p.tables e below (T.setTop g) target := by
  obtain ⟨mk, methM, hnamed, hmethM, hstM, habM⟩ := Cond.instanceMethod_spec hinst
  obtain ⟨m8, methM', cM, hn8, hmethM', -, -, -, -, -, -, hsigM⟩ := Cond.codeWith_spec hcode
  cases Option.some.inj (hn8.symm.trans hnamed)
  cases hmethM.symm.trans hmethM'
  obtain ⟨c2, r2, m2, q1, q2, q3, q4, kP, hkP, hkPi⟩ := Cond.selects_spec hsel
  cases hcls.symm.trans q1
  cases (State.methodFound?_of_named hnamed hy).symm.trans q2
  cases hnamed.symm.trans q3
  have hselP : selectMethod e.platform s.vm cellB.cls mk = .method mk := by rw [Launch.admits_selectMethod X.admits]; exact q4
  obtain ⟨vm₁, X₁, hstep₁⟩ := X.invokevirtual hexec hown hlink hnamed hmethM hstM hkP hkPi hy (a := b) (cell := cellB) hcell
    (fun z h => by rw [h] at hobj; cases hobj) hselP hmethM habM hkP hkPi (g := g) hg (argsL := argsL) (rest := rest) (hlen _ hsigM) hstack hdg
  obtain ⟨v, B, X', hpost, hsteps⟩ := hK m meth c ⟨T.setVm vm₁, locs, cells, slots⟩ { g with stack := rest } (.invokevirtual index) mk (Value.ref b :: argsL).toArray X₁ hg hsize hdg hW (X₁.named hnamed) (hpre vm₁ X₁.warmed)
  exact ⟨v, vm₁, B, X₁.warmed, X', hpost, fun target h => hstep₁ _ fun acts => by rw [doInvoke_state]; exact hsteps.trans h⟩
abbrev vx_CVW (R : Room) (s : State) (args : Array Value) (own C : String) (index : Nat) (y : MethodName) (bytes : ByteArray) (maxL : Nat) (ret : Option FieldType) (hh : List (Nat × Nat × Nat × Nat)) (ws : List Cond) (rm : Room) (mc ms n : Nat) : Prop :=
  (rm.cells = mc ∧ rm.slots = ms ∧ rm.frames + 1 ≤ R.frames ∧ 8 + (maxL + 11) + rm.locals ≤ R.locals ∧ (∀ w ∈ ws, ∀ (a' : Array Value) (U : State), s.WarmedH U.vm → w.before a' U = true) ∧ Cond.codeWith y bytes maxL ret hh ∈ ws) ∧
  (Cond.codeWith y bytes maxL ret hh).before args s = true ∧ (Cond.initialized y.cls).before args s = true ∧ (y.cls ≠ "java/lang/invoke/MethodHandle" ∧ y.cls ≠ "java/lang/invoke/VarHandle") ∧
  (∀ sig, parseMethodDescriptor y.desc = some sig → n = sig.parameters.length) ∧ (Cond.methodLink own index y).before args s = true ∧ (Cond.instanceMethod y).before args s = true ∧ (Cond.selects C y y).before args s = true
theorem vx_cwVW {own C : String} {index maxL mc ms : Nat} {y : MethodName} {bytes : ByteArray} {ret : Option FieldType} {hh : List (Nat × Nat × Nat × Nat)} {Ts ws ws' : List Cond} {rm : Room} (n : Nat) (ht : ∀ w ∈ Ts, w.before args s = true) (hT : GoodIn Ts (wsV own index C y ws)) (hw : ws = Cond.codeWith y bytes maxL ret hh :: ws') (hrc : rm.cells = mc) (hrs : rm.slots = ms)
    (hd : y.cls = C ∧ y.cls ≠ "java/lang/invoke/MethodHandle" ∧ y.cls ≠ "java/lang/invoke/VarHandle" ∧ (parseMethodDescriptor y.desc).map (fun d => d.parameters.length) = some n) (hR : rm.frames + 1 ≤ R.frames ∧ 8 + (maxL + 11) + rm.locals ≤ R.locals) :
    vx_CVW R s args own C index y bytes maxL ret hh ws rm mc ms n := by
  obtain ⟨hC, hd⟩ := hd
  subst hC
  have ok : ∀ w ∈ wsV own index y.cls y ws, w.before args s = true := fun w h => ht w (hT w h).1
  have hG : GoodIn Ts ws := fun w h => hT w (by unfold wsV; exact List.mem_append_right _ h)
  have hc : Cond.codeWith y bytes maxL ret hh ∈ ws := by rw [hw]; exact List.mem_cons_self
  refine ⟨⟨hrc, hrs, hR.1, hR.2, pay_in ht hG, hc⟩, ht _ (hG _ hc).1, ok _ (by simp [wsV]), ⟨hd.1, hd.2.1⟩, fun sig h => ?_, ok _ (by simp [wsV]), ok _ (by simp [wsV]), ok _ (by simp [wsV])⟩
  have h2 := hd.2.2
  rw [h] at h2
  exact (Option.some.inj h2).symm
theorem vx_runVW {y : MethodName} {bytes cc : ByteArray} {maxL nL mc ms n index : Nat} {ret : Option FieldType} {hh : List (Nat × Nat × Nat × Nat)} {ws : List Cond} {rm : Room} {Pc : Array Value → State → Prop} {Qc : Array Value → State → Outcome → State → Prop} {free : Addr → Prop} {Ts : List Cond} {own C : String} {b : Addr} {As rest : List Value} {g : JFrame}
    (S : CallFix p m c cc nL s args Ts own) (hM : Met l y ws rm Pc Qc mc ms free) (cw : vx_CVW R s args own C index y bytes maxL ret hh ws rm mc ms n) (hp : PreV s H C b Pc As)
    (hg : g.method = m) (hn : As.length = n) (hsize : g.locals.size = nL) (hstack : g.stack = As.reverse ++ .ref b :: rest) (hW : 2 * g.monitorRoom + (rest.map fun v => v.category).sum ≤ 8) (hdg : decode cc g.pc = .ok (.invokevirtual index, 3)) (hf : cells + mc ≤ R.cells ∧ slots + ms ≤ R.slots) :
    va_Run p l e R s m args below meth c H locs cells slots mc ms g rest (Qc (Value.ref b :: As).toArray) free := by
  obtain ⟨⟨hrc, hrs, hfr, hlo, hws, hcw⟩, hcode, hini, hy, hlen, hl, hin, hse⟩ := cw
  have hK : Back l R p e below s args y 3 8 (PreOf R mc ms Pc) (PostOf Qc mc ms free) := va_backW (hh := hh) (bytes := bytes) (maxL := maxL) (ret := ret) hM hp.1 hrc hrs hfr hlo hws hcw (fun a' U hW => word_at hW (Or.inl (by first | rfl | simp [Cond.onTables, Cond.keeps, Cond.steady])) hini)
  obtain ⟨hx, hb, hml, ho, -⟩ := S
  obtain ⟨-, ⟨cellB, hcB, hoB, hclB⟩, hPc⟩ := hp
  intro T hT X
  obtain ⟨v, vm₁, ⟨U', l2, c2, s2⟩, hW₁, X', ⟨g', mk, t, L, e1, e2, hq, h1, hL, h2, h3⟩, st⟩ := vx_callVW X hx (C := C) (hh := hh) (bytes := bytes) (maxL := maxL) (ret := ret) ho hl hin hse hcode hy hK (by rw [hT]; exact hcB) hoB hclB hg (hsize.trans hml.symm) (argsL := As) (rest := rest) (fun sig h => hn.trans (hlen sig h)) hstack hW (by rw [hb]; exact hdg)
    (fun vm₁ hW₁ => ⟨hf.1, hf.2, hPc (T.setVm vm₁) hT hW₁⟩)
  dsimp only [Pt.U, Pt.locs, Pt.cells, Pt.slots] at X' e1 e2 h1 h2 h3 st
  subst h1; subst h2; subst h3
  exact ⟨v, (T.setVm vm₁).calling g' mk (Value.ref b :: As).toArray, t, U', L, hT, X', hL, e1, e2, hq, st⟩
section
variable {y : MethodName} {bytes cc : ByteArray} {maxL nL mc ms n index : Nat} {ret : Option FieldType} {ws : List Cond} {rm : Room} {Pc : Array Value → State → Prop} {Qc : Array Value → State → Outcome → State → Prop} {XC : String → State → State → Prop} {free : Addr → Prop} {Ts : List Cond} {own C : String} {b : Addr} {As rest : List Value} {g : JFrame}
theorem vx_runVX {hh : List (Nat × Nat × Nat × Nat)} (S : CallFix p m c cc nL s args Ts own) (hM : vx_Met l y ws rm Pc Qc XC mc ms free) (cw : vx_CVW R s args own C index y bytes maxL ret hh ws rm mc ms n) (hp : PreV s H C b Pc As)
    (hg : g.method = m) (hn : As.length = n) (hsize : g.locals.size = nL) (hstack : g.stack = As.reverse ++ .ref b :: rest) (hW : 2 * g.monitorRoom + (rest.map fun v => v.category).sum ≤ 8) (hdg : decode cc g.pc = .ok (.invokevirtual index, 3)) (hf : cells + mc ≤ R.cells ∧ slots + ms ≤ R.slots) :
    vx_Run p l e R s m args below meth c H locs cells slots mc ms g rest (Qc (Value.ref b :: As).toArray) XC free := by
  obtain ⟨⟨hrc, hrs, hfr, hlo, hws, hcw⟩, hcode, hini, hy, hlen, hl, hin, hse⟩ := cw
  have hK : vx_Back l R p e below s args y 3 8 (PreOf R mc ms Pc) (PostOf Qc mc ms free) (vx_Post XC mc ms free) := vx_backW (hh := hh) (bytes := bytes) (maxL := maxL) (ret := ret) hM hp.1 hrc hrs hfr hlo hws hcw (fun a' U hW => word_at hW (Or.inl (by first | rfl | simp [Cond.onTables, Cond.keeps, Cond.steady])) hini)
  obtain ⟨hx, hb, hml, ho, -⟩ := S
  obtain ⟨-, ⟨cellB, hcB, hoB, hclB⟩, hPc⟩ := hp
  intro T hT X
  rcases vx_callVX X hx (C := C) (hh := hh) (bytes := bytes) (maxL := maxL) (ret := ret) ho hl hin hse hcode hy hK (by rw [hT]; exact hcB) hoB hclB hg (hsize.trans hml.symm) (argsL := As) (rest := rest) (fun sig h => hn.trans (hlen sig h)) hstack hW (by rw [hb]; exact hdg)
    (fun vm₁ hW₁ => ⟨hf.1, hf.2, hPc (T.setVm vm₁) hT hW₁⟩) with ⟨v, vm₁, ⟨U', l2, c2, s2⟩, hW₁, X', ⟨g', mk, t, L, e1, e2, hq, h1, hL, h2, h3⟩, st⟩ | ⟨q, vm₁, ⟨U', l2, c2, s2⟩, hW₁, X', ⟨g', mk, t, L, E, ce, e1, e2, hq, hce, hcv, hcl, h1, hL, h2, h3⟩, st⟩
  · dsimp only [Pt.U, Pt.locs, Pt.cells, Pt.slots] at X' e1 e2 h1 h2 h3 st
    subst h1; subst h2; subst h3
    exact Or.inl ⟨v, (T.setVm vm₁).calling g' mk (Value.ref b :: As).toArray, t, U', L, hT, X', hL, e1, e2, hq, st⟩
  · dsimp only [Pt.U, Pt.locs, Pt.cells, Pt.slots] at X' e1 e2 h1 h2 h3 st hcl
    subst h1; subst h2; subst h3
    exact Or.inr ⟨q, (T.setVm vm₁).calling g' mk (Value.ref b :: As).toArray, t, U', L, E, ce, hT, X', hL, e1, e2, hq, hce, hcv, vx_cls hW₁ hcl, st⟩
theorem vx_runSX {hh : List (Nat × Nat × Nat × Nat)} (S : CallFix p m c cc nL s args Ts own) (hM : vx_Met l y ws rm Pc Qc XC mc ms free) (cw : vx_CSW R s args own index y bytes maxL ret hh ws rm mc ms n) (hp : PreS s H Pc As)
    (hg : g.method = m) (hn : As.length = n) (hsize : g.locals.size = nL) (hstack : g.stack = As.reverse ++ rest) (hW : 2 * g.monitorRoom + (rest.map fun v => v.category).sum ≤ 8) (hdg : decode cc g.pc = .ok (.invokestatic index, 3)) (hf : cells + mc ≤ R.cells ∧ slots + ms ≤ R.slots) :
    vx_Run p l e R s m args below meth c H locs cells slots mc ms g rest (Qc As.toArray) XC free := by
  obtain ⟨⟨hrc, hrs, hfr, hlo, hws, hcw⟩, hcode, hini, hy, hlen, hl, hstt⟩ := cw
  have hK : vx_Back l R p e below s args y 3 8 (PreOf R mc ms Pc) (PostOf Qc mc ms free) (vx_Post XC mc ms free) := vx_backW (hh := hh) (bytes := bytes) (maxL := maxL) (ret := ret) hM hp.1 hrc hrs hfr hlo hws hcw (fun a' U hW => word_at hW (Or.inl (by first | rfl | simp [Cond.onTables, Cond.keeps, Cond.steady])) hini)
  obtain ⟨hx, hb, hml, ho, -⟩ := S
  intro T hT X
  rcases vx_callSX X hx (hh := hh) (bytes := bytes) (maxL := maxL) (ret := ret) ho hl hstt hini hcode hy hK hg (hsize.trans hml.symm) (argsL := As) (rest := rest) (fun sig h => hn.trans (hlen sig h)) hstack hW (by rw [hb]; exact hdg)
    (fun vm₁ hW₁ => ⟨hf.1, hf.2, hp.2 (T.setVm vm₁) hT hW₁⟩) with ⟨v, vm₁, ⟨U', l2, c2, s2⟩, hW₁, X', ⟨g', mk, t, L, e1, e2, hq, h1, hL, h2, h3⟩, st⟩ | ⟨q, vm₁, ⟨U', l2, c2, s2⟩, hW₁, X', ⟨g', mk, t, L, E, ce, e1, e2, hq, hce, hcv, hcl, h1, hL, h2, h3⟩, st⟩
  · dsimp only [Pt.U, Pt.locs, Pt.cells, Pt.slots] at X' e1 e2 h1 h2 h3 st
    subst h1; subst h2; subst h3
    exact Or.inl ⟨v, (T.setVm vm₁).calling g' mk As.toArray, t, U', L, hT, X', hL, e1, e2, hq, st⟩
  · dsimp only [Pt.U, Pt.locs, Pt.cells, Pt.slots] at X' e1 e2 h1 h2 h3 st hcl
    subst h1; subst h2; subst h3
    exact Or.inr ⟨q, (T.setVm vm₁).calling g' mk As.toArray, t, U', L, E, ce, hT, X', hL, e1, e2, hq, hce, hcv, vx_cls hW₁ hcl, st⟩
end
end VXH
theorem vx_ofWH {l : Launch} {y : MethodName} {ws ws' : List Cond} {rm : Room} {Pc : Array Value → State → Prop} {Qc : Array Value → State → Outcome → State → Prop} {XC : String → State → State → Prop} {mc ms : Nat} {free : Addr → Prop} {cc : ByteArray} {maxL : Nat} {ret : Option FieldType} {hh : List (Nat × Nat × Nat × Nat)}
    (hy : plainName y.cls = true) (hw : ws = Cond.codeWith y cc maxL ret hh :: ws')
    (body : ∀ p e s m args below meth c s₁, BodyLoose p l y (headSpec ws rm) cc maxL ret e s m args below meth c s₁ → c.maxLocals = maxL → Pc args s →
      W p l e (headSpec ws rm).room s m args below meth c s.heap [] 0 0 (vx_MQ below Qc XC args s mc ms free) (entryFrame m args maxL)) : vx_Met l y ws rm Pc Qc XC mc ms free := by
  refine MetFree.of_bodyS (code := cc) (maxLocals := maxL) (ret := ret) hy ?_ ?_
  · intro args s m h hn
    obtain ⟨m9, meth, c, hn9, h1, h2, h3, h4, -, h5, h6, -⟩ := Cond.codeWith_spec (atoms_spec (ws := ws) h _ (by rw [hw]; exact List.mem_cons_self))
    cases hn.symm.trans hn9
    exact ⟨meth, c, h1, h2, h3, h4, h5, h6⟩
  · intro p e s m args below meth c s₁ B hml hP _
    have hh0 : s₁.heap = s.heap := by rw [B.state]; rfl
    obtain ⟨t, a1, o, b1, b2, b3⟩ := body p e s m args below meth c s₁ B hml hP s₁ hh0 (Stand.of_body B)
    exact ⟨t, o, a1, b1, b2, b3⟩
/-! ===== END ===== -/
end
section
/-! ===== BEGIN printed: names, fields, word lists, decode rows ===== -/
def RX0 : String := "Tetherline$Floor"
def TX0 : u_T := fun k => match k with
  | 0 => ("Tetherline$Floor", "columns", "I", true)
  | 1 => ("Tetherline$Floor", "rows", "I", true)
  | 2 => ("Tetherline$Floor", "pillarNumbers", "[I", true)
  | _ => ("Tetherline$Floor", "pillars", "I", false)
def tyX0 : Nat → FieldType := fun k => match k with
  | 0 => .int
  | 1 => .int
  | 2 => .array .int
  | _ => .int
abbrev wsX00 : List Cond := u_ws RX0 TX0 4
theorem nmX0 : ∀ a, a < 4 → ∀ b, b < 4 → a ≠ b → (TX0 a).2.1 ≠ (TX0 b).2.1 := by decide +kernel
theorem tyX0_ok : ∀ k, k < 4 → parseFieldDescriptor (TX0 k).2.2.1 = some (tyX0 k) := by decide +kernel
abbrev cX0_init : ByteArray := prog_2_method_1_code
def yX0_init : MethodName := ⟨RX0, "<init>", "(II)V"⟩
abbrev cX0_has : ByteArray := prog_2_method_2_code
def yX0_has : MethodName := ⟨RX0, "has", "(II)Z"⟩
abbrev cX0_isFull : ByteArray := prog_2_method_3_code
def yX0_isFull : MethodName := ⟨RX0, "isFull", "()Z"⟩
abbrev cX0_isPillar : ByteArray := prog_2_method_4_code
def yX0_isPillar : MethodName := ⟨RX0, "isPillar", "(I)Z"⟩
abbrev cX0_setPillar : ByteArray := prog_2_method_5_code
def yX0_setPillar : MethodName := ⟨RX0, "setPillar", "(I)I"⟩
abbrev cX0_after : ByteArray := prog_2_method_6_code
def yX0_after : MethodName := ⟨RX0, "after", "(II)I"⟩
abbrev cX0_placeAt : ByteArray := prog_2_method_7_code
def yX0_placeAt : MethodName := ⟨RX0, "placeAt", "(III)I"⟩
abbrev cX0_wordToTheRight : ByteArray := prog_2_method_8_code
def yX0_wordToTheRight : MethodName := ⟨RX0, "wordToTheRight", "(III)I"⟩
abbrev cX0_wordToTheLeft : ByteArray := prog_2_method_9_code
def yX0_wordToTheLeft : MethodName := ⟨RX0, "wordToTheLeft", "(III)I"⟩
abbrev cX0_pillarNumberOf : ByteArray := prog_2_method_10_code
def yX0_pillarNumberOf : MethodName := ⟨RX0, "pillarNumberOf", "(I)I"⟩
def RX1 : String := "Tetherline$Spread"
def TX1 : u_T := fun k => match k with
  | 0 => ("Tetherline$Spread", "distances", "[I", true)
  | 1 => ("Tetherline$Spread", "reached", "[I", true)
  | _ => ("Tetherline$Spread", "count", "I", false)
def tyX1 : Nat → FieldType := fun k => match k with
  | 0 => .array .int
  | 1 => .array .int
  | _ => .int
abbrev wsX10 : List Cond := u_ws RX1 TX1 3
theorem nmX1 : ∀ a, a < 3 → ∀ b, b < 3 → a ≠ b → (TX1 a).2.1 ≠ (TX1 b).2.1 := by decide +kernel
theorem tyX1_ok : ∀ k, k < 3 → parseFieldDescriptor (TX1 k).2.2.1 = some (tyX1 k) := by decide +kernel
abbrev cX1_init : ByteArray := prog_3_method_1_code
def yX1_init : MethodName := ⟨RX1, "<init>", "()V"⟩
abbrev cX1_begin : ByteArray := prog_3_method_2_code
def yX1_begin : MethodName := ⟨RX1, "begin", "(I)V"⟩
abbrev cX1_reach : ByteArray := prog_3_method_3_code
def yX1_reach : MethodName := ⟨RX1, "reach", "(II)V"⟩
abbrev cX1_count : ByteArray := prog_3_method_4_code
def yX1_count : MethodName := ⟨RX1, "count", "()I"⟩
abbrev cX1_placeAt : ByteArray := prog_3_method_5_code
def yX1_placeAt : MethodName := ⟨RX1, "placeAt", "(I)I"⟩
abbrev cX1_distanceOf : ByteArray := prog_3_method_6_code
def yX1_distanceOf : MethodName := ⟨RX1, "distanceOf", "(I)I"⟩
abbrev cX1_add : ByteArray := prog_3_method_7_code
def yX1_add : MethodName := ⟨RX1, "add", "(II)V"⟩
def RX2 : String := "Tetherline"
def TX2 : u_T := fun k => match k with
  | 0 => ("Tetherline", "floor", "LTetherline$Floor;", true)
  | 1 => ("Tetherline", "limit", "I", true)
  | 2 => ("Tetherline", "lengths", "LTetherline$Spread;", true)
  | 3 => ("Tetherline", "ways", "LTetherline$Spread;", true)
  | 4 => ("Tetherline", "base", "I", false)
  | 5 => ("Tetherline", "place", "I", false)
  | _ => ("Tetherline", "stepsMade", "I", false)
def tyX2 : Nat → FieldType := fun k => match k with
  | 0 => .object "Tetherline$Floor"
  | 1 => .int
  | 2 => .object "Tetherline$Spread"
  | 3 => .object "Tetherline$Spread"
  | 4 => .int
  | 5 => .int
  | _ => .int
abbrev wsX20 : List Cond := u_ws RX2 TX2 7
theorem nmX2 : ∀ a, a < 7 → ∀ b, b < 7 → a ≠ b → (TX2 a).2.1 ≠ (TX2 b).2.1 := by decide +kernel
theorem tyX2_ok : ∀ k, k < 7 → parseFieldDescriptor (TX2 k).2.2.1 = some (tyX2 k) := by decide +kernel
abbrev cX2_init : ByteArray := prog_1_method_1_code
def yX2_init : MethodName := ⟨RX2, "<init>", "(III)V"⟩
abbrev cX2_pillar : ByteArray := prog_1_method_2_code
def yX2_pillar : MethodName := ⟨RX2, "pillar", "(II)I"⟩
abbrev cX2_base : ByteArray := prog_1_method_3_code
def yX2_base : MethodName := ⟨RX2, "base", "(II)V"⟩
abbrev cX2_step : ByteArray := prog_1_method_4_code
def yX2_step : MethodName := ⟨RX2, "step", "(I)I"⟩
abbrev cX2_go : ByteArray := prog_1_method_5_code
def yX2_go : MethodName := ⟨RX2, "go", "(II)I"⟩
abbrev cX2_back : ByteArray := prog_1_method_6_code
def yX2_back : MethodName := ⟨RX2, "back", "(I)I"⟩
abbrev cX2_column : ByteArray := prog_1_method_7_code
def yX2_column : MethodName := ⟨RX2, "column", "()I"⟩
abbrev cX2_row : ByteArray := prog_1_method_8_code
def yX2_row : MethodName := ⟨RX2, "row", "()I"⟩
abbrev cX2_letters : ByteArray := prog_1_method_9_code
def yX2_letters : MethodName := ⟨RX2, "letters", "()I"⟩
abbrev cX2_letterAt : ByteArray := prog_1_method_10_code
def yX2_letterAt : MethodName := ⟨RX2, "letterAt", "(I)I"⟩
abbrev cX2_length : ByteArray := prog_1_method_11_code
def yX2_length : MethodName := ⟨RX2, "length", "()I"⟩
abbrev cX2_slack : ByteArray := prog_1_method_12_code
def yX2_slack : MethodName := ⟨RX2, "slack", "()I"⟩
abbrev cX2_steps : ByteArray := prog_1_method_13_code
def yX2_steps : MethodName := ⟨RX2, "steps", "()I"⟩
abbrev cX2_lengthByTrying : ByteArray := prog_1_method_14_code
def yX2_lengthByTrying : MethodName := ⟨RX2, "lengthByTrying", "(I)I"⟩
abbrev cX2_cableAt : ByteArray := prog_1_method_15_code
def yX2_cableAt : MethodName := ⟨RX2, "cableAt", "(I)I"⟩
abbrev cX2_bends : ByteArray := prog_1_method_16_code
def yX2_bends : MethodName := ⟨RX2, "bends", "()I"⟩
abbrev cX2_least : ByteArray := prog_1_method_17_code
def yX2_least : MethodName := ⟨RX2, "least", "(II)I"⟩
abbrev cX2_missing : ByteArray := prog_1_method_18_code
def yX2_missing : MethodName := ⟨RX2, "missing", "(II)I"⟩
abbrev cX2_words : ByteArray := prog_1_method_19_code
def yX2_words : MethodName := ⟨RX2, "words", "(II)I"⟩
abbrev cX2_squares : ByteArray := prog_1_method_20_code
def yX2_squares : MethodName := ⟨RX2, "squares", "()I"⟩
abbrev cX2_measureLengths : ByteArray := prog_1_method_21_code
def yX2_measureLengths : MethodName := ⟨RX2, "measureLengths", "()V"⟩
abbrev cX2_nearestPlaceOf : ByteArray := prog_1_method_22_code
def yX2_nearestPlaceOf : MethodName := ⟨RX2, "nearestPlaceOf", "(I)I"⟩
abbrev cX2_afterStep : ByteArray := prog_1_method_23_code
def yX2_afterStep : MethodName := ⟨RX2, "afterStep", "(II)I"⟩
abbrev cX2_isWithinLimit : ByteArray := prog_1_method_24_code
def yX2_isWithinLimit : MethodName := ⟨RX2, "isWithinLimit", "(I)Z"⟩
abbrev cX2_leastLengthOf : ByteArray := prog_1_method_25_code
def yX2_leastLengthOf : MethodName := ⟨RX2, "leastLengthOf", "(I)I"⟩
abbrev cX2_alongCable : ByteArray := prog_1_method_26_code
def yX2_alongCable : MethodName := ⟨RX2, "alongCable", "(I)I"⟩
abbrev cX2_cableDirection : ByteArray := prog_1_method_27_code
def yX2_cableDirection : MethodName := ⟨RX2, "cableDirection", "(I)I"⟩
abbrev cX2_fewestByTrying : ByteArray := prog_1_method_28_code
def yX2_fewestByTrying : MethodName := ⟨RX2, "fewestByTrying", "(LTetherline$Floor;IIII)I"⟩
abbrev cX2_requireSquare : ByteArray := prog_1_method_29_code
def yX2_requireSquare : MethodName := ⟨RX2, "requireSquare", "(II)V"⟩
abbrev cX2_between : ByteArray := prog_1_method_30_code
def yX2_between : MethodName := ⟨RX2, "between", "(III)I"⟩
abbrev cX2_squareAt : ByteArray := prog_1_method_31_code
def yX2_squareAt : MethodName := ⟨RX2, "squareAt", "(II)I"⟩
abbrev cX2_columnOf : ByteArray := prog_1_method_32_code
def yX2_columnOf : MethodName := ⟨RX2, "columnOf", "(I)I"⟩
abbrev cX2_rowOf : ByteArray := prog_1_method_33_code
def yX2_rowOf : MethodName := ⟨RX2, "rowOf", "(I)I"⟩
abbrev cX2_apart : ByteArray := prog_1_method_34_code
def yX2_apart : MethodName := ⟨RX2, "apart", "(II)I"⟩
abbrev cX2_placeOf : ByteArray := prog_1_method_35_code
def yX2_placeOf : MethodName := ⟨RX2, "placeOf", "(II)I"⟩
abbrev cX2_squareOf : ByteArray := prog_1_method_36_code
def yX2_squareOf : MethodName := ⟨RX2, "squareOf", "(I)I"⟩
abbrev cX2_wordOf : ByteArray := prog_1_method_37_code
def yX2_wordOf : MethodName := ⟨RX2, "wordOf", "(I)I"⟩
abbrev cX2_lettersOf : ByteArray := prog_1_method_38_code
def yX2_lettersOf : MethodName := ⟨RX2, "lettersOf", "(I)I"⟩
abbrev cX2_lastLetterOf : ByteArray := prog_1_method_39_code
def yX2_lastLetterOf : MethodName := ⟨RX2, "lastLetterOf", "(I)I"⟩
abbrev cX2_oppositeOf : ByteArray := prog_1_method_40_code
def yX2_oppositeOf : MethodName := ⟨RX2, "oppositeOf", "(I)I"⟩
abbrev cX2_withLetter : ByteArray := prog_1_method_41_code
def yX2_withLetter : MethodName := ⟨RX2, "withLetter", "(II)I"⟩
def RX3 : String := "TetherlineModel"
def TX3 : u_T := fun k => match k with
  | _ => ("", "", "", false)
def tyX3 : Nat → FieldType := fun k => match k with
  | _ => .int
abbrev wsX30 : List Cond := u_ws RX3 TX3 0
theorem nmX3 : ∀ a, a < 0 → ∀ b, b < 0 → a ≠ b → (TX3 a).2.1 ≠ (TX3 b).2.1 := by decide +kernel
theorem tyX3_ok : ∀ k, k < 0 → parseFieldDescriptor (TX3 k).2.2.1 = some (tyX3 k) := by decide +kernel
def RJx145de : String := "java/io/Serializable"
def TJx145de : u_T := fun k => match k with
  | _ => ("", "", "", false)
def tyJx145de : Nat → FieldType := fun k => match k with
  | _ => .int
abbrev wsJx145de0 : List Cond := u_ws RJx145de TJx145de 0
theorem nmJx145de : ∀ a, a < 0 → ∀ b, b < 0 → a ≠ b → (TJx145de a).2.1 ≠ (TJx145de b).2.1 := by decide +kernel
theorem tyJx145de_ok : ∀ k, k < 0 → parseFieldDescriptor (TJx145de k).2.2.1 = some (tyJx145de k) := by decide +kernel
def RJ9 : String := "java/lang/Math"
def TJ9 : u_T := fun k => match k with
  | _ => ("", "", "", false)
def tyJ9 : Nat → FieldType := fun k => match k with
  | _ => .int
abbrev wsJ90 : List Cond := u_ws RJ9 TJ9 0
theorem nmJ9 : ∀ a, a < 0 → ∀ b, b < 0 → a ≠ b → (TJ9 a).2.1 ≠ (TJ9 b).2.1 := by decide +kernel
theorem tyJ9_ok : ∀ k, k < 0 → parseFieldDescriptor (TJ9 k).2.2.1 = some (tyJ9 k) := by decide +kernel
abbrev cJ9_abs_0f7a4 : ByteArray := prog_11_method_59_code
def yJ9_abs_0f7a4 : MethodName := ⟨RJ9, "abs", "(I)I"⟩
abbrev cJ9_max_7cf53 : ByteArray := prog_11_method_65_code
def yJ9_max_7cf53 : MethodName := ⟨RJ9, "max", "(II)I"⟩
abbrev cJ9_min_7cf53 : ByteArray := prog_11_method_69_code
def yJ9_min_7cf53 : MethodName := ⟨RJ9, "min", "(II)I"⟩
def RJ0 : String := "java/lang/String"
def TJ0 : u_T := fun k => match k with
  | _ => ("", "", "", false)
def tyJ0 : Nat → FieldType := fun k => match k with
  | _ => .int
abbrev wsJ00 : List Cond := u_ws RJ0 TJ0 0
theorem nmJ0 : ∀ a, a < 0 → ∀ b, b < 0 → a ≠ b → (TJ0 a).2.1 ≠ (TJ0 b).2.1 := by decide +kernel
theorem tyJ0_ok : ∀ k, k < 0 → parseFieldDescriptor (TJ0 k).2.2.1 = some (tyJ0 k) := by decide +kernel
def RJ7 : String := "java/util/Arrays"
def TJ7 : u_T := fun k => match k with
  | _ => ("", "", "", false)
def tyJ7 : Nat → FieldType := fun k => match k with
  | _ => .int
abbrev wsJ70 : List Cond := u_ws RJ7 TJ7 0
theorem nmJ7 : ∀ a, a < 0 → ∀ b, b < 0 → a ≠ b → (TJ7 a).2.1 ≠ (TJ7 b).2.1 := by decide +kernel
theorem tyJ7_ok : ∀ k, k < 0 → parseFieldDescriptor (TJ7 k).2.2.1 = some (tyJ7 k) := by decide +kernel
abbrev cJ7_fill_53178 : ByteArray := prog_15_method_103_code
def yJ7_fill_53178 : MethodName := ⟨RJ7, "fill", "([II)V"⟩
def RL : String := "TetherlineLaw"
abbrev cL_cell : ByteArray := method_2_code
def yL_cell : MethodName := ⟨RL, "cell", "([II)I"⟩
abbrev cL_low : ByteArray := method_3_code
def yL_low : MethodName := ⟨RL, "low", "(II)I"⟩
abbrev cL_does : ByteArray := method_4_code
def yL_does : MethodName := ⟨RL, "does", "(LTetherline;III)I"⟩
abbrev cL_base : ByteArray := method_5_code
def yL_base : MethodName := ⟨RL, "base", "(LTetherline;II)I"⟩
abbrev cL_cableAt : ByteArray := method_6_code
def yL_cableAt : MethodName := ⟨RL, "cableAt", "(LTetherline;I)I"⟩
abbrev cL_letterAt : ByteArray := method_7_code
def yL_letterAt : MethodName := ⟨RL, "letterAt", "(LTetherline;I)I"⟩
abbrev cL_act : ByteArray := method_8_code
def yL_act : MethodName := ⟨RL, "act", "(LTetherline;III)I"⟩
abbrev cL_areAlike : ByteArray := method_9_code
def yL_areAlike : MethodName := ⟨RL, "areAlike", "(LTetherline;LTetherline;)Z"⟩
abbrev cL_isPlaceSo : ByteArray := method_10_code
def yL_isPlaceSo : MethodName := ⟨RL, "isPlaceSo", "(LTetherline;)Z"⟩
abbrev cL_areGoalsSo : ByteArray := method_11_code
def yL_areGoalsSo : MethodName := ⟨RL, "areGoalsSo", "(LTetherline;II)Z"⟩
abbrev cL_isReturnedSo : ByteArray := method_12_code
def yL_isReturnedSo : MethodName := ⟨RL, "isReturnedSo", "(LTetherline;LTetherline;I)Z"⟩
abbrev cL_law : ByteArray := code
def yL_law : MethodName := ⟨RL, "law", "([I)Z"⟩
abbrev vwCl : List vw_C := [(RX0, TX0, 4), (RX1, TX1, 3), (RX2, TX2, 7)]
end
section
theorem dX0_init_0 : decode cX0_init 0 = .ok (.aload_n 0, 1) := by decide +kernel
theorem dX0_init_1 : decode cX0_init 1 = .ok (.invokespecial 3, 3) := by decide +kernel
theorem dX0_init_4 : decode cX0_init 4 = .ok (.aload_n 0, 1) := by decide +kernel
theorem dX0_init_5 : decode cX0_init 5 = .ok (.bipush 49, 2) := by decide +kernel
theorem dX0_init_7 : decode cX0_init 7 = .ok (.newarray .int, 2) := by decide +kernel
theorem dX0_init_9 : decode cX0_init 9 = .ok (.putfield 9, 3) := by decide +kernel
theorem dX0_init_12 : decode cX0_init 12 = .ok (.aload_n 0, 1) := by decide +kernel
theorem dX0_init_13 : decode cX0_init 13 = .ok (.iload_n 1, 1) := by decide +kernel
theorem dX0_init_14 : decode cX0_init 14 = .ok (.putfield 15, 3) := by decide +kernel
theorem dX0_init_17 : decode cX0_init 17 = .ok (.aload_n 0, 1) := by decide +kernel
theorem dX0_init_18 : decode cX0_init 18 = .ok (.iload_n 2, 1) := by decide +kernel
theorem dX0_init_19 : decode cX0_init 19 = .ok (.putfield 19, 3) := by decide +kernel
theorem dX0_init_22 : decode cX0_init 22 = .ok (.aload_n 0, 1) := by decide +kernel
theorem dX0_init_23 : decode cX0_init 23 = .ok (.getfield 9, 3) := by decide +kernel
theorem dX0_init_26 : decode cX0_init 26 = .ok (.iconst (-1), 1) := by decide +kernel
theorem dX0_init_27 : decode cX0_init 27 = .ok (.invokestatic 22, 3) := by decide +kernel
theorem dX0_init_30 : decode cX0_init 30 = .ok (.return_, 1) := by decide +kernel
theorem dX0_has_0 : decode cX0_has 0 = .ok (.iload_n 1, 1) := by decide +kernel
theorem dX0_has_1 : decode cX0_has 1 = .ok (.ifCond .lt 27, 3) := by decide +kernel
theorem dX0_has_4 : decode cX0_has 4 = .ok (.iload_n 1, 1) := by decide +kernel
theorem dX0_has_5 : decode cX0_has 5 = .ok (.aload_n 0, 1) := by decide +kernel
theorem dX0_has_6 : decode cX0_has 6 = .ok (.getfield 15, 3) := by decide +kernel
theorem dX0_has_9 : decode cX0_has 9 = .ok (.if_icmp .ge 19, 3) := by decide +kernel
theorem dX0_has_12 : decode cX0_has 12 = .ok (.iload_n 2, 1) := by decide +kernel
theorem dX0_has_13 : decode cX0_has 13 = .ok (.ifCond .lt 15, 3) := by decide +kernel
theorem dX0_has_16 : decode cX0_has 16 = .ok (.iload_n 2, 1) := by decide +kernel
theorem dX0_has_17 : decode cX0_has 17 = .ok (.aload_n 0, 1) := by decide +kernel
theorem dX0_has_18 : decode cX0_has 18 = .ok (.getfield 19, 3) := by decide +kernel
theorem dX0_has_21 : decode cX0_has 21 = .ok (.if_icmp .ge 7, 3) := by decide +kernel
theorem dX0_has_24 : decode cX0_has 24 = .ok (.iconst 1, 1) := by decide +kernel
theorem dX0_has_25 : decode cX0_has 25 = .ok (.goto 4, 3) := by decide +kernel
theorem dX0_has_28 : decode cX0_has 28 = .ok (.iconst 0, 1) := by decide +kernel
theorem dX0_has_29 : decode cX0_has 29 = .ok (.ireturn, 1) := by decide +kernel
theorem dX0_isFull_0 : decode cX0_isFull 0 = .ok (.aload_n 0, 1) := by decide +kernel
theorem dX0_isFull_1 : decode cX0_isFull 1 = .ok (.getfield 28, 3) := by decide +kernel
theorem dX0_isFull_4 : decode cX0_isFull 4 = .ok (.iconst 3, 1) := by decide +kernel
theorem dX0_isFull_5 : decode cX0_isFull 5 = .ok (.if_icmp .lt 7, 3) := by decide +kernel
theorem dX0_isFull_8 : decode cX0_isFull 8 = .ok (.iconst 1, 1) := by decide +kernel
theorem dX0_isFull_9 : decode cX0_isFull 9 = .ok (.goto 4, 3) := by decide +kernel
theorem dX0_isFull_12 : decode cX0_isFull 12 = .ok (.iconst 0, 1) := by decide +kernel
theorem dX0_isFull_13 : decode cX0_isFull 13 = .ok (.ireturn, 1) := by decide +kernel
theorem dX0_isPillar_0 : decode cX0_isPillar 0 = .ok (.aload_n 0, 1) := by decide +kernel
theorem dX0_isPillar_1 : decode cX0_isPillar 1 = .ok (.iload_n 1, 1) := by decide +kernel
theorem dX0_isPillar_2 : decode cX0_isPillar 2 = .ok (.invokevirtual 31, 3) := by decide +kernel
theorem dX0_isPillar_5 : decode cX0_isPillar 5 = .ok (.iconst (-1), 1) := by decide +kernel
theorem dX0_isPillar_6 : decode cX0_isPillar 6 = .ok (.if_icmp .eq 7, 3) := by decide +kernel
theorem dX0_isPillar_9 : decode cX0_isPillar 9 = .ok (.iconst 1, 1) := by decide +kernel
theorem dX0_isPillar_10 : decode cX0_isPillar 10 = .ok (.goto 4, 3) := by decide +kernel
theorem dX0_isPillar_13 : decode cX0_isPillar 13 = .ok (.iconst 0, 1) := by decide +kernel
theorem dX0_isPillar_14 : decode cX0_isPillar 14 = .ok (.ireturn, 1) := by decide +kernel
theorem dX0_setPillar_0 : decode cX0_setPillar 0 = .ok (.aload_n 0, 1) := by decide +kernel
theorem dX0_setPillar_1 : decode cX0_setPillar 1 = .ok (.invokevirtual 35, 3) := by decide +kernel
theorem dX0_setPillar_4 : decode cX0_setPillar 4 = .ok (.ifCond .ne 16, 3) := by decide +kernel
theorem dX0_setPillar_7 : decode cX0_setPillar 7 = .ok (.iload_n 1, 1) := by decide +kernel
theorem dX0_setPillar_8 : decode cX0_setPillar 8 = .ok (.ifCond .lt 12, 3) := by decide +kernel
theorem dX0_setPillar_11 : decode cX0_setPillar 11 = .ok (.iload_n 1, 1) := by decide +kernel
theorem dX0_setPillar_12 : decode cX0_setPillar 12 = .ok (.aload_n 0, 1) := by decide +kernel
theorem dX0_setPillar_13 : decode cX0_setPillar 13 = .ok (.getfield 9, 3) := by decide +kernel
theorem dX0_setPillar_16 : decode cX0_setPillar 16 = .ok (.arraylength, 1) := by decide +kernel
theorem dX0_setPillar_17 : decode cX0_setPillar 17 = .ok (.if_icmp .lt 5, 3) := by decide +kernel
theorem dX0_setPillar_20 : decode cX0_setPillar 20 = .ok (.iconst (-1), 1) := by decide +kernel
theorem dX0_setPillar_21 : decode cX0_setPillar 21 = .ok (.ireturn, 1) := by decide +kernel
theorem dX0_setPillar_22 : decode cX0_setPillar 22 = .ok (.aload_n 0, 1) := by decide +kernel
theorem dX0_setPillar_23 : decode cX0_setPillar 23 = .ok (.getfield 28, 3) := by decide +kernel
theorem dX0_setPillar_26 : decode cX0_setPillar 26 = .ok (.istore_n 2, 1) := by decide +kernel
theorem dX0_setPillar_27 : decode cX0_setPillar 27 = .ok (.aload_n 0, 1) := by decide +kernel
theorem dX0_setPillar_28 : decode cX0_setPillar 28 = .ok (.getfield 9, 3) := by decide +kernel
theorem dX0_setPillar_31 : decode cX0_setPillar 31 = .ok (.iload_n 1, 1) := by decide +kernel
theorem dX0_setPillar_32 : decode cX0_setPillar 32 = .ok (.iload_n 2, 1) := by decide +kernel
theorem dX0_setPillar_33 : decode cX0_setPillar 33 = .ok (.iastore, 1) := by decide +kernel
theorem dX0_setPillar_34 : decode cX0_setPillar 34 = .ok (.aload_n 0, 1) := by decide +kernel
theorem dX0_setPillar_35 : decode cX0_setPillar 35 = .ok (.dup, 1) := by decide +kernel
theorem dX0_setPillar_36 : decode cX0_setPillar 36 = .ok (.getfield 28, 3) := by decide +kernel
theorem dX0_setPillar_39 : decode cX0_setPillar 39 = .ok (.iconst 1, 1) := by decide +kernel
theorem dX0_setPillar_40 : decode cX0_setPillar 40 = .ok (.iadd, 1) := by decide +kernel
theorem dX0_setPillar_41 : decode cX0_setPillar 41 = .ok (.putfield 28, 3) := by decide +kernel
theorem dX0_setPillar_44 : decode cX0_setPillar 44 = .ok (.iload_n 2, 1) := by decide +kernel
theorem dX0_setPillar_45 : decode cX0_setPillar 45 = .ok (.ireturn, 1) := by decide +kernel
theorem dX0_after_0 : decode cX0_after 0 = .ok (.iload_n 1, 1) := by decide +kernel
theorem dX0_after_1 : decode cX0_after 1 = .ok (.invokestatic 39, 3) := by decide +kernel
theorem dX0_after_4 : decode cX0_after 4 = .ok (.invokestatic 42, 3) := by decide +kernel
theorem dX0_after_7 : decode cX0_after 7 = .ok (.istore_n 3, 1) := by decide +kernel
theorem dX0_after_8 : decode cX0_after 8 = .ok (.iload_n 1, 1) := by decide +kernel
theorem dX0_after_9 : decode cX0_after 9 = .ok (.invokestatic 39, 3) := by decide +kernel
theorem dX0_after_12 : decode cX0_after 12 = .ok (.invokestatic 45, 3) := by decide +kernel
theorem dX0_after_15 : decode cX0_after 15 = .ok (.istore 4, 2) := by decide +kernel
theorem dX0_after_17 : decode cX0_after 17 = .ok (.iload_n 2, 1) := by decide +kernel
theorem dX0_after_18 : decode cX0_after 18 = .ok (.tableswitch 102 0 3 #[30, 44, 65, 79], 30) := by decide +kernel
theorem dX0_after_48 : decode cX0_after 48 = .ok (.aload_n 0, 1) := by decide +kernel
theorem dX0_after_49 : decode cX0_after 49 = .ok (.iload_n 3, 1) := by decide +kernel
theorem dX0_after_50 : decode cX0_after 50 = .ok (.iload 4, 2) := by decide +kernel
theorem dX0_after_52 : decode cX0_after 52 = .ok (.iconst 1, 1) := by decide +kernel
theorem dX0_after_53 : decode cX0_after 53 = .ok (.isub, 1) := by decide +kernel
theorem dX0_after_54 : decode cX0_after 54 = .ok (.iload_n 1, 1) := by decide +kernel
theorem dX0_after_55 : decode cX0_after 55 = .ok (.invokestatic 48, 3) := by decide +kernel
theorem dX0_after_58 : decode cX0_after 58 = .ok (.invokevirtual 51, 3) := by decide +kernel
theorem dX0_after_61 : decode cX0_after 61 = .ok (.ireturn, 1) := by decide +kernel
theorem dX0_after_62 : decode cX0_after 62 = .ok (.aload_n 0, 1) := by decide +kernel
theorem dX0_after_63 : decode cX0_after 63 = .ok (.iload_n 3, 1) := by decide +kernel
theorem dX0_after_64 : decode cX0_after 64 = .ok (.iconst 1, 1) := by decide +kernel
theorem dX0_after_65 : decode cX0_after 65 = .ok (.iadd, 1) := by decide +kernel
theorem dX0_after_66 : decode cX0_after 66 = .ok (.iload 4, 2) := by decide +kernel
theorem dX0_after_68 : decode cX0_after 68 = .ok (.aload_n 0, 1) := by decide +kernel
theorem dX0_after_69 : decode cX0_after 69 = .ok (.iload_n 1, 1) := by decide +kernel
theorem dX0_after_70 : decode cX0_after 70 = .ok (.invokestatic 48, 3) := by decide +kernel
theorem dX0_after_73 : decode cX0_after 73 = .ok (.iload_n 3, 1) := by decide +kernel
theorem dX0_after_74 : decode cX0_after 74 = .ok (.iload 4, 2) := by decide +kernel
theorem dX0_after_76 : decode cX0_after 76 = .ok (.invokevirtual 55, 3) := by decide +kernel
theorem dX0_after_79 : decode cX0_after 79 = .ok (.invokevirtual 51, 3) := by decide +kernel
theorem dX0_after_82 : decode cX0_after 82 = .ok (.ireturn, 1) := by decide +kernel
theorem dX0_after_83 : decode cX0_after 83 = .ok (.aload_n 0, 1) := by decide +kernel
theorem dX0_after_84 : decode cX0_after 84 = .ok (.iload_n 3, 1) := by decide +kernel
theorem dX0_after_85 : decode cX0_after 85 = .ok (.iload 4, 2) := by decide +kernel
theorem dX0_after_87 : decode cX0_after 87 = .ok (.iconst 1, 1) := by decide +kernel
theorem dX0_after_88 : decode cX0_after 88 = .ok (.iadd, 1) := by decide +kernel
theorem dX0_after_89 : decode cX0_after 89 = .ok (.iload_n 1, 1) := by decide +kernel
theorem dX0_after_90 : decode cX0_after 90 = .ok (.invokestatic 48, 3) := by decide +kernel
theorem dX0_after_93 : decode cX0_after 93 = .ok (.invokevirtual 51, 3) := by decide +kernel
theorem dX0_after_96 : decode cX0_after 96 = .ok (.ireturn, 1) := by decide +kernel
theorem dX0_after_97 : decode cX0_after 97 = .ok (.aload_n 0, 1) := by decide +kernel
theorem dX0_after_98 : decode cX0_after 98 = .ok (.iload_n 3, 1) := by decide +kernel
theorem dX0_after_99 : decode cX0_after 99 = .ok (.iconst 1, 1) := by decide +kernel
theorem dX0_after_100 : decode cX0_after 100 = .ok (.isub, 1) := by decide +kernel
theorem dX0_after_101 : decode cX0_after 101 = .ok (.iload 4, 2) := by decide +kernel
theorem dX0_after_103 : decode cX0_after 103 = .ok (.aload_n 0, 1) := by decide +kernel
theorem dX0_after_104 : decode cX0_after 104 = .ok (.iload_n 1, 1) := by decide +kernel
theorem dX0_after_105 : decode cX0_after 105 = .ok (.invokestatic 48, 3) := by decide +kernel
theorem dX0_after_108 : decode cX0_after 108 = .ok (.iload_n 3, 1) := by decide +kernel
theorem dX0_after_109 : decode cX0_after 109 = .ok (.iconst 1, 1) := by decide +kernel
theorem dX0_after_110 : decode cX0_after 110 = .ok (.isub, 1) := by decide +kernel
theorem dX0_after_111 : decode cX0_after 111 = .ok (.iload 4, 2) := by decide +kernel
theorem dX0_after_113 : decode cX0_after 113 = .ok (.invokevirtual 58, 3) := by decide +kernel
theorem dX0_after_116 : decode cX0_after 116 = .ok (.invokevirtual 51, 3) := by decide +kernel
theorem dX0_after_119 : decode cX0_after 119 = .ok (.ireturn, 1) := by decide +kernel
theorem dX0_after_120 : decode cX0_after 120 = .ok (.iconst (-1), 1) := by decide +kernel
theorem dX0_after_121 : decode cX0_after 121 = .ok (.ireturn, 1) := by decide +kernel
theorem dX0_placeAt_0 : decode cX0_placeAt 0 = .ok (.iload_n 3, 1) := by decide +kernel
theorem dX0_placeAt_1 : decode cX0_placeAt 1 = .ok (.sipush 343, 3) := by decide +kernel
theorem dX0_placeAt_4 : decode cX0_placeAt 4 = .ok (.if_icmp .ge 24, 3) := by decide +kernel
theorem dX0_placeAt_7 : decode cX0_placeAt 7 = .ok (.aload_n 0, 1) := by decide +kernel
theorem dX0_placeAt_8 : decode cX0_placeAt 8 = .ok (.iload_n 1, 1) := by decide +kernel
theorem dX0_placeAt_9 : decode cX0_placeAt 9 = .ok (.iload_n 2, 1) := by decide +kernel
theorem dX0_placeAt_10 : decode cX0_placeAt 10 = .ok (.invokevirtual 61, 3) := by decide +kernel
theorem dX0_placeAt_13 : decode cX0_placeAt 13 = .ok (.ifCond .eq 15, 3) := by decide +kernel
theorem dX0_placeAt_16 : decode cX0_placeAt 16 = .ok (.aload_n 0, 1) := by decide +kernel
theorem dX0_placeAt_17 : decode cX0_placeAt 17 = .ok (.iload_n 1, 1) := by decide +kernel
theorem dX0_placeAt_18 : decode cX0_placeAt 18 = .ok (.iload_n 2, 1) := by decide +kernel
theorem dX0_placeAt_19 : decode cX0_placeAt 19 = .ok (.invokestatic 65, 3) := by decide +kernel
theorem dX0_placeAt_22 : decode cX0_placeAt 22 = .ok (.invokevirtual 69, 3) := by decide +kernel
theorem dX0_placeAt_25 : decode cX0_placeAt 25 = .ok (.ifCond .eq 5, 3) := by decide +kernel
theorem dX0_placeAt_28 : decode cX0_placeAt 28 = .ok (.iconst (-1), 1) := by decide +kernel
theorem dX0_placeAt_29 : decode cX0_placeAt 29 = .ok (.ireturn, 1) := by decide +kernel
theorem dX0_placeAt_30 : decode cX0_placeAt 30 = .ok (.iload_n 1, 1) := by decide +kernel
theorem dX0_placeAt_31 : decode cX0_placeAt 31 = .ok (.iload_n 2, 1) := by decide +kernel
theorem dX0_placeAt_32 : decode cX0_placeAt 32 = .ok (.invokestatic 65, 3) := by decide +kernel
theorem dX0_placeAt_35 : decode cX0_placeAt 35 = .ok (.iload_n 3, 1) := by decide +kernel
theorem dX0_placeAt_36 : decode cX0_placeAt 36 = .ok (.invokestatic 73, 3) := by decide +kernel
theorem dX0_placeAt_39 : decode cX0_placeAt 39 = .ok (.ireturn, 1) := by decide +kernel
theorem dX0_wordToTheRight_0 : decode cX0_wordToTheRight 0 = .ok (.iload_n 1, 1) := by decide +kernel
theorem dX0_wordToTheRight_1 : decode cX0_wordToTheRight 1 = .ok (.istore 4, 2) := by decide +kernel
theorem dX0_wordToTheRight_3 : decode cX0_wordToTheRight 3 = .ok (.iload_n 3, 1) := by decide +kernel
theorem dX0_wordToTheRight_4 : decode cX0_wordToTheRight 4 = .ok (.iconst 1, 1) := by decide +kernel
theorem dX0_wordToTheRight_5 : decode cX0_wordToTheRight 5 = .ok (.iadd, 1) := by decide +kernel
theorem dX0_wordToTheRight_6 : decode cX0_wordToTheRight 6 = .ok (.istore 5, 2) := by decide +kernel
theorem dX0_wordToTheRight_8 : decode cX0_wordToTheRight 8 = .ok (.iload 5, 2) := by decide +kernel
theorem dX0_wordToTheRight_10 : decode cX0_wordToTheRight 10 = .ok (.aload_n 0, 1) := by decide +kernel
theorem dX0_wordToTheRight_11 : decode cX0_wordToTheRight 11 = .ok (.getfield 19, 3) := by decide +kernel
theorem dX0_wordToTheRight_14 : decode cX0_wordToTheRight 14 = .ok (.if_icmp .ge 38, 3) := by decide +kernel
theorem dX0_wordToTheRight_17 : decode cX0_wordToTheRight 17 = .ok (.aload_n 0, 1) := by decide +kernel
theorem dX0_wordToTheRight_18 : decode cX0_wordToTheRight 18 = .ok (.iload_n 2, 1) := by decide +kernel
theorem dX0_wordToTheRight_19 : decode cX0_wordToTheRight 19 = .ok (.iload 5, 2) := by decide +kernel
theorem dX0_wordToTheRight_21 : decode cX0_wordToTheRight 21 = .ok (.invokestatic 65, 3) := by decide +kernel
theorem dX0_wordToTheRight_24 : decode cX0_wordToTheRight 24 = .ok (.invokevirtual 31, 3) := by decide +kernel
theorem dX0_wordToTheRight_27 : decode cX0_wordToTheRight 27 = .ok (.istore 6, 2) := by decide +kernel
theorem dX0_wordToTheRight_29 : decode cX0_wordToTheRight 29 = .ok (.iload 6, 2) := by decide +kernel
theorem dX0_wordToTheRight_31 : decode cX0_wordToTheRight 31 = .ok (.iconst (-1), 1) := by decide +kernel
theorem dX0_wordToTheRight_32 : decode cX0_wordToTheRight 32 = .ok (.if_icmp .eq 14, 3) := by decide +kernel
theorem dX0_wordToTheRight_35 : decode cX0_wordToTheRight 35 = .ok (.iload 4, 2) := by decide +kernel
theorem dX0_wordToTheRight_37 : decode cX0_wordToTheRight 37 = .ok (.iconst 2, 1) := by decide +kernel
theorem dX0_wordToTheRight_38 : decode cX0_wordToTheRight 38 = .ok (.iload 6, 2) := by decide +kernel
theorem dX0_wordToTheRight_40 : decode cX0_wordToTheRight 40 = .ok (.imul, 1) := by decide +kernel
theorem dX0_wordToTheRight_41 : decode cX0_wordToTheRight 41 = .ok (.invokestatic 76, 3) := by decide +kernel
theorem dX0_wordToTheRight_44 : decode cX0_wordToTheRight 44 = .ok (.istore 4, 2) := by decide +kernel
theorem dX0_wordToTheRight_46 : decode cX0_wordToTheRight 46 = .ok (.iinc 5 1, 3) := by decide +kernel
theorem dX0_wordToTheRight_49 : decode cX0_wordToTheRight 49 = .ok (.goto (-41), 3) := by decide +kernel
theorem dX0_wordToTheRight_52 : decode cX0_wordToTheRight 52 = .ok (.iload 4, 2) := by decide +kernel
theorem dX0_wordToTheRight_54 : decode cX0_wordToTheRight 54 = .ok (.ireturn, 1) := by decide +kernel
theorem dX0_wordToTheLeft_0 : decode cX0_wordToTheLeft 0 = .ok (.iload_n 1, 1) := by decide +kernel
theorem dX0_wordToTheLeft_1 : decode cX0_wordToTheLeft 1 = .ok (.istore 4, 2) := by decide +kernel
theorem dX0_wordToTheLeft_3 : decode cX0_wordToTheLeft 3 = .ok (.aload_n 0, 1) := by decide +kernel
theorem dX0_wordToTheLeft_4 : decode cX0_wordToTheLeft 4 = .ok (.getfield 19, 3) := by decide +kernel
theorem dX0_wordToTheLeft_7 : decode cX0_wordToTheLeft 7 = .ok (.iconst 1, 1) := by decide +kernel
theorem dX0_wordToTheLeft_8 : decode cX0_wordToTheLeft 8 = .ok (.isub, 1) := by decide +kernel
theorem dX0_wordToTheLeft_9 : decode cX0_wordToTheLeft 9 = .ok (.istore 5, 2) := by decide +kernel
theorem dX0_wordToTheLeft_11 : decode cX0_wordToTheLeft 11 = .ok (.iload 5, 2) := by decide +kernel
theorem dX0_wordToTheLeft_13 : decode cX0_wordToTheLeft 13 = .ok (.iload_n 3, 1) := by decide +kernel
theorem dX0_wordToTheLeft_14 : decode cX0_wordToTheLeft 14 = .ok (.if_icmp .le 41, 3) := by decide +kernel
theorem dX0_wordToTheLeft_17 : decode cX0_wordToTheLeft 17 = .ok (.aload_n 0, 1) := by decide +kernel
theorem dX0_wordToTheLeft_18 : decode cX0_wordToTheLeft 18 = .ok (.iload_n 2, 1) := by decide +kernel
theorem dX0_wordToTheLeft_19 : decode cX0_wordToTheLeft 19 = .ok (.iload 5, 2) := by decide +kernel
theorem dX0_wordToTheLeft_21 : decode cX0_wordToTheLeft 21 = .ok (.invokestatic 65, 3) := by decide +kernel
theorem dX0_wordToTheLeft_24 : decode cX0_wordToTheLeft 24 = .ok (.invokevirtual 31, 3) := by decide +kernel
theorem dX0_wordToTheLeft_27 : decode cX0_wordToTheLeft 27 = .ok (.istore 6, 2) := by decide +kernel
theorem dX0_wordToTheLeft_29 : decode cX0_wordToTheLeft 29 = .ok (.iload 6, 2) := by decide +kernel
theorem dX0_wordToTheLeft_31 : decode cX0_wordToTheLeft 31 = .ok (.iconst (-1), 1) := by decide +kernel
theorem dX0_wordToTheLeft_32 : decode cX0_wordToTheLeft 32 = .ok (.if_icmp .eq 17, 3) := by decide +kernel
theorem dX0_wordToTheLeft_35 : decode cX0_wordToTheLeft 35 = .ok (.iload 4, 2) := by decide +kernel
theorem dX0_wordToTheLeft_37 : decode cX0_wordToTheLeft 37 = .ok (.iconst 2, 1) := by decide +kernel
theorem dX0_wordToTheLeft_38 : decode cX0_wordToTheLeft 38 = .ok (.iload 6, 2) := by decide +kernel
theorem dX0_wordToTheLeft_40 : decode cX0_wordToTheLeft 40 = .ok (.imul, 1) := by decide +kernel
theorem dX0_wordToTheLeft_41 : decode cX0_wordToTheLeft 41 = .ok (.invokestatic 79, 3) := by decide +kernel
theorem dX0_wordToTheLeft_44 : decode cX0_wordToTheLeft 44 = .ok (.invokestatic 76, 3) := by decide +kernel
theorem dX0_wordToTheLeft_47 : decode cX0_wordToTheLeft 47 = .ok (.istore 4, 2) := by decide +kernel
theorem dX0_wordToTheLeft_49 : decode cX0_wordToTheLeft 49 = .ok (.iinc 5 (-1), 3) := by decide +kernel
theorem dX0_wordToTheLeft_52 : decode cX0_wordToTheLeft 52 = .ok (.goto (-41), 3) := by decide +kernel
theorem dX0_wordToTheLeft_55 : decode cX0_wordToTheLeft 55 = .ok (.iload 4, 2) := by decide +kernel
theorem dX0_wordToTheLeft_57 : decode cX0_wordToTheLeft 57 = .ok (.ireturn, 1) := by decide +kernel
theorem dX0_pillarNumberOf_0 : decode cX0_pillarNumberOf 0 = .ok (.iload_n 1, 1) := by decide +kernel
theorem dX0_pillarNumberOf_1 : decode cX0_pillarNumberOf 1 = .ok (.ifCond .lt 21, 3) := by decide +kernel
theorem dX0_pillarNumberOf_4 : decode cX0_pillarNumberOf 4 = .ok (.iload_n 1, 1) := by decide +kernel
theorem dX0_pillarNumberOf_5 : decode cX0_pillarNumberOf 5 = .ok (.aload_n 0, 1) := by decide +kernel
theorem dX0_pillarNumberOf_6 : decode cX0_pillarNumberOf 6 = .ok (.getfield 9, 3) := by decide +kernel
theorem dX0_pillarNumberOf_9 : decode cX0_pillarNumberOf 9 = .ok (.arraylength, 1) := by decide +kernel
theorem dX0_pillarNumberOf_10 : decode cX0_pillarNumberOf 10 = .ok (.if_icmp .ge 12, 3) := by decide +kernel
theorem dX0_pillarNumberOf_13 : decode cX0_pillarNumberOf 13 = .ok (.aload_n 0, 1) := by decide +kernel
theorem dX0_pillarNumberOf_14 : decode cX0_pillarNumberOf 14 = .ok (.getfield 9, 3) := by decide +kernel
theorem dX0_pillarNumberOf_17 : decode cX0_pillarNumberOf 17 = .ok (.iload_n 1, 1) := by decide +kernel
theorem dX0_pillarNumberOf_18 : decode cX0_pillarNumberOf 18 = .ok (.iaload, 1) := by decide +kernel
theorem dX0_pillarNumberOf_19 : decode cX0_pillarNumberOf 19 = .ok (.goto 4, 3) := by decide +kernel
theorem dX0_pillarNumberOf_22 : decode cX0_pillarNumberOf 22 = .ok (.iconst (-1), 1) := by decide +kernel
theorem dX0_pillarNumberOf_23 : decode cX0_pillarNumberOf 23 = .ok (.ireturn, 1) := by decide +kernel
theorem dX1_init_0 : decode cX1_init 0 = .ok (.aload_n 0, 1) := by decide +kernel
theorem dX1_init_1 : decode cX1_init 1 = .ok (.invokespecial 3, 3) := by decide +kernel
theorem dX1_init_4 : decode cX1_init 4 = .ok (.aload_n 0, 1) := by decide +kernel
theorem dX1_init_5 : decode cX1_init 5 = .ok (.sipush 16807, 3) := by decide +kernel
theorem dX1_init_8 : decode cX1_init 8 = .ok (.newarray .int, 2) := by decide +kernel
theorem dX1_init_10 : decode cX1_init 10 = .ok (.putfield 9, 3) := by decide +kernel
theorem dX1_init_13 : decode cX1_init 13 = .ok (.aload_n 0, 1) := by decide +kernel
theorem dX1_init_14 : decode cX1_init 14 = .ok (.sipush 9163, 3) := by decide +kernel
theorem dX1_init_17 : decode cX1_init 17 = .ok (.newarray .int, 2) := by decide +kernel
theorem dX1_init_19 : decode cX1_init 19 = .ok (.putfield 15, 3) := by decide +kernel
theorem dX1_init_22 : decode cX1_init 22 = .ok (.return_, 1) := by decide +kernel
theorem dX1_begin_0 : decode cX1_begin 0 = .ok (.aload_n 0, 1) := by decide +kernel
theorem dX1_begin_1 : decode cX1_begin 1 = .ok (.getfield 9, 3) := by decide +kernel
theorem dX1_begin_4 : decode cX1_begin 4 = .ok (.iconst (-1), 1) := by decide +kernel
theorem dX1_begin_5 : decode cX1_begin 5 = .ok (.invokestatic 18, 3) := by decide +kernel
theorem dX1_begin_8 : decode cX1_begin 8 = .ok (.aload_n 0, 1) := by decide +kernel
theorem dX1_begin_9 : decode cX1_begin 9 = .ok (.iconst 0, 1) := by decide +kernel
theorem dX1_begin_10 : decode cX1_begin 10 = .ok (.putfield 24, 3) := by decide +kernel
theorem dX1_begin_13 : decode cX1_begin 13 = .ok (.aload_n 0, 1) := by decide +kernel
theorem dX1_begin_14 : decode cX1_begin 14 = .ok (.iload_n 1, 1) := by decide +kernel
theorem dX1_begin_15 : decode cX1_begin 15 = .ok (.iconst 0, 1) := by decide +kernel
theorem dX1_begin_16 : decode cX1_begin 16 = .ok (.invokevirtual 28, 3) := by decide +kernel
theorem dX1_begin_19 : decode cX1_begin 19 = .ok (.return_, 1) := by decide +kernel
theorem dX1_reach_0 : decode cX1_reach 0 = .ok (.aload_n 0, 1) := by decide +kernel
theorem dX1_reach_1 : decode cX1_reach 1 = .ok (.iload_n 1, 1) := by decide +kernel
theorem dX1_reach_2 : decode cX1_reach 2 = .ok (.invokevirtual 32, 3) := by decide +kernel
theorem dX1_reach_5 : decode cX1_reach 5 = .ok (.iconst (-1), 1) := by decide +kernel
theorem dX1_reach_6 : decode cX1_reach 6 = .ok (.if_icmp .ne 15, 3) := by decide +kernel
theorem dX1_reach_9 : decode cX1_reach 9 = .ok (.aload_n 0, 1) := by decide +kernel
theorem dX1_reach_10 : decode cX1_reach 10 = .ok (.iload_n 1, 1) := by decide +kernel
theorem dX1_reach_11 : decode cX1_reach 11 = .ok (.aload_n 0, 1) := by decide +kernel
theorem dX1_reach_12 : decode cX1_reach 12 = .ok (.iload_n 2, 1) := by decide +kernel
theorem dX1_reach_13 : decode cX1_reach 13 = .ok (.invokevirtual 32, 3) := by decide +kernel
theorem dX1_reach_16 : decode cX1_reach 16 = .ok (.iconst 1, 1) := by decide +kernel
theorem dX1_reach_17 : decode cX1_reach 17 = .ok (.iadd, 1) := by decide +kernel
theorem dX1_reach_18 : decode cX1_reach 18 = .ok (.invokevirtual 28, 3) := by decide +kernel
theorem dX1_reach_21 : decode cX1_reach 21 = .ok (.return_, 1) := by decide +kernel
theorem dX1_count_0 : decode cX1_count 0 = .ok (.aload_n 0, 1) := by decide +kernel
theorem dX1_count_1 : decode cX1_count 1 = .ok (.getfield 24, 3) := by decide +kernel
theorem dX1_count_4 : decode cX1_count 4 = .ok (.ireturn, 1) := by decide +kernel
theorem dX1_placeAt_0 : decode cX1_placeAt 0 = .ok (.iload_n 1, 1) := by decide +kernel
theorem dX1_placeAt_1 : decode cX1_placeAt 1 = .ok (.ifCond .lt 29, 3) := by decide +kernel
theorem dX1_placeAt_4 : decode cX1_placeAt 4 = .ok (.iload_n 1, 1) := by decide +kernel
theorem dX1_placeAt_5 : decode cX1_placeAt 5 = .ok (.aload_n 0, 1) := by decide +kernel
theorem dX1_placeAt_6 : decode cX1_placeAt 6 = .ok (.getfield 24, 3) := by decide +kernel
theorem dX1_placeAt_9 : decode cX1_placeAt 9 = .ok (.if_icmp .ge 21, 3) := by decide +kernel
theorem dX1_placeAt_12 : decode cX1_placeAt 12 = .ok (.iload_n 1, 1) := by decide +kernel
theorem dX1_placeAt_13 : decode cX1_placeAt 13 = .ok (.aload_n 0, 1) := by decide +kernel
theorem dX1_placeAt_14 : decode cX1_placeAt 14 = .ok (.getfield 15, 3) := by decide +kernel
theorem dX1_placeAt_17 : decode cX1_placeAt 17 = .ok (.arraylength, 1) := by decide +kernel
theorem dX1_placeAt_18 : decode cX1_placeAt 18 = .ok (.if_icmp .ge 12, 3) := by decide +kernel
theorem dX1_placeAt_21 : decode cX1_placeAt 21 = .ok (.aload_n 0, 1) := by decide +kernel
theorem dX1_placeAt_22 : decode cX1_placeAt 22 = .ok (.getfield 15, 3) := by decide +kernel
theorem dX1_placeAt_25 : decode cX1_placeAt 25 = .ok (.iload_n 1, 1) := by decide +kernel
theorem dX1_placeAt_26 : decode cX1_placeAt 26 = .ok (.iaload, 1) := by decide +kernel
theorem dX1_placeAt_27 : decode cX1_placeAt 27 = .ok (.goto 4, 3) := by decide +kernel
theorem dX1_placeAt_30 : decode cX1_placeAt 30 = .ok (.iconst (-1), 1) := by decide +kernel
theorem dX1_placeAt_31 : decode cX1_placeAt 31 = .ok (.ireturn, 1) := by decide +kernel
theorem dX1_distanceOf_0 : decode cX1_distanceOf 0 = .ok (.iload_n 1, 1) := by decide +kernel
theorem dX1_distanceOf_1 : decode cX1_distanceOf 1 = .ok (.ifCond .lt 21, 3) := by decide +kernel
theorem dX1_distanceOf_4 : decode cX1_distanceOf 4 = .ok (.iload_n 1, 1) := by decide +kernel
theorem dX1_distanceOf_5 : decode cX1_distanceOf 5 = .ok (.aload_n 0, 1) := by decide +kernel
theorem dX1_distanceOf_6 : decode cX1_distanceOf 6 = .ok (.getfield 9, 3) := by decide +kernel
theorem dX1_distanceOf_9 : decode cX1_distanceOf 9 = .ok (.arraylength, 1) := by decide +kernel
theorem dX1_distanceOf_10 : decode cX1_distanceOf 10 = .ok (.if_icmp .ge 12, 3) := by decide +kernel
theorem dX1_distanceOf_13 : decode cX1_distanceOf 13 = .ok (.aload_n 0, 1) := by decide +kernel
theorem dX1_distanceOf_14 : decode cX1_distanceOf 14 = .ok (.getfield 9, 3) := by decide +kernel
theorem dX1_distanceOf_17 : decode cX1_distanceOf 17 = .ok (.iload_n 1, 1) := by decide +kernel
theorem dX1_distanceOf_18 : decode cX1_distanceOf 18 = .ok (.iaload, 1) := by decide +kernel
theorem dX1_distanceOf_19 : decode cX1_distanceOf 19 = .ok (.goto 4, 3) := by decide +kernel
theorem dX1_distanceOf_22 : decode cX1_distanceOf 22 = .ok (.iconst (-1), 1) := by decide +kernel
theorem dX1_distanceOf_23 : decode cX1_distanceOf 23 = .ok (.ireturn, 1) := by decide +kernel
theorem dX1_add_0 : decode cX1_add 0 = .ok (.iload_n 1, 1) := by decide +kernel
theorem dX1_add_1 : decode cX1_add 1 = .ok (.ifCond .lt 58, 3) := by decide +kernel
theorem dX1_add_4 : decode cX1_add 4 = .ok (.iload_n 1, 1) := by decide +kernel
theorem dX1_add_5 : decode cX1_add 5 = .ok (.aload_n 0, 1) := by decide +kernel
theorem dX1_add_6 : decode cX1_add 6 = .ok (.getfield 9, 3) := by decide +kernel
theorem dX1_add_9 : decode cX1_add 9 = .ok (.arraylength, 1) := by decide +kernel
theorem dX1_add_10 : decode cX1_add 10 = .ok (.if_icmp .ge 49, 3) := by decide +kernel
theorem dX1_add_13 : decode cX1_add 13 = .ok (.aload_n 0, 1) := by decide +kernel
theorem dX1_add_14 : decode cX1_add 14 = .ok (.getfield 24, 3) := by decide +kernel
theorem dX1_add_17 : decode cX1_add 17 = .ok (.ifCond .lt 42, 3) := by decide +kernel
theorem dX1_add_20 : decode cX1_add 20 = .ok (.aload_n 0, 1) := by decide +kernel
theorem dX1_add_21 : decode cX1_add 21 = .ok (.getfield 24, 3) := by decide +kernel
theorem dX1_add_24 : decode cX1_add 24 = .ok (.aload_n 0, 1) := by decide +kernel
theorem dX1_add_25 : decode cX1_add 25 = .ok (.getfield 15, 3) := by decide +kernel
theorem dX1_add_28 : decode cX1_add 28 = .ok (.arraylength, 1) := by decide +kernel
theorem dX1_add_29 : decode cX1_add 29 = .ok (.if_icmp .ge 30, 3) := by decide +kernel
theorem dX1_add_32 : decode cX1_add 32 = .ok (.aload_n 0, 1) := by decide +kernel
theorem dX1_add_33 : decode cX1_add 33 = .ok (.getfield 9, 3) := by decide +kernel
theorem dX1_add_36 : decode cX1_add 36 = .ok (.iload_n 1, 1) := by decide +kernel
theorem dX1_add_37 : decode cX1_add 37 = .ok (.iload_n 2, 1) := by decide +kernel
theorem dX1_add_38 : decode cX1_add 38 = .ok (.iastore, 1) := by decide +kernel
theorem dX1_add_39 : decode cX1_add 39 = .ok (.aload_n 0, 1) := by decide +kernel
theorem dX1_add_40 : decode cX1_add 40 = .ok (.getfield 15, 3) := by decide +kernel
theorem dX1_add_43 : decode cX1_add 43 = .ok (.aload_n 0, 1) := by decide +kernel
theorem dX1_add_44 : decode cX1_add 44 = .ok (.getfield 24, 3) := by decide +kernel
theorem dX1_add_47 : decode cX1_add 47 = .ok (.iload_n 1, 1) := by decide +kernel
theorem dX1_add_48 : decode cX1_add 48 = .ok (.iastore, 1) := by decide +kernel
theorem dX1_add_49 : decode cX1_add 49 = .ok (.aload_n 0, 1) := by decide +kernel
theorem dX1_add_50 : decode cX1_add 50 = .ok (.dup, 1) := by decide +kernel
theorem dX1_add_51 : decode cX1_add 51 = .ok (.getfield 24, 3) := by decide +kernel
theorem dX1_add_54 : decode cX1_add 54 = .ok (.iconst 1, 1) := by decide +kernel
theorem dX1_add_55 : decode cX1_add 55 = .ok (.iadd, 1) := by decide +kernel
theorem dX1_add_56 : decode cX1_add 56 = .ok (.putfield 24, 3) := by decide +kernel
theorem dX1_add_59 : decode cX1_add 59 = .ok (.return_, 1) := by decide +kernel
theorem dX2_init_0 : decode cX2_init 0 = .ok (.aload_n 0, 1) := by decide +kernel
theorem dX2_init_1 : decode cX2_init 1 = .ok (.invokespecial 3, 3) := by decide +kernel
theorem dX2_init_4 : decode cX2_init 4 = .ok (.aload_n 0, 1) := by decide +kernel
theorem dX2_init_5 : decode cX2_init 5 = .ok (.new 9, 3) := by decide +kernel
theorem dX2_init_8 : decode cX2_init 8 = .ok (.dup, 1) := by decide +kernel
theorem dX2_init_9 : decode cX2_init 9 = .ok (.invokespecial 11, 3) := by decide +kernel
theorem dX2_init_12 : decode cX2_init 12 = .ok (.putfield 12, 3) := by decide +kernel
theorem dX2_init_15 : decode cX2_init 15 = .ok (.aload_n 0, 1) := by decide +kernel
theorem dX2_init_16 : decode cX2_init 16 = .ok (.new 9, 3) := by decide +kernel
theorem dX2_init_19 : decode cX2_init 19 = .ok (.dup, 1) := by decide +kernel
theorem dX2_init_20 : decode cX2_init 20 = .ok (.invokespecial 11, 3) := by decide +kernel
theorem dX2_init_23 : decode cX2_init 23 = .ok (.putfield 16, 3) := by decide +kernel
theorem dX2_init_26 : decode cX2_init 26 = .ok (.aload_n 0, 1) := by decide +kernel
theorem dX2_init_27 : decode cX2_init 27 = .ok (.new 19, 3) := by decide +kernel
theorem dX2_init_30 : decode cX2_init 30 = .ok (.dup, 1) := by decide +kernel
theorem dX2_init_31 : decode cX2_init 31 = .ok (.iconst 3, 1) := by decide +kernel
theorem dX2_init_32 : decode cX2_init 32 = .ok (.iload_n 1, 1) := by decide +kernel
theorem dX2_init_33 : decode cX2_init 33 = .ok (.bipush 7, 2) := by decide +kernel
theorem dX2_init_35 : decode cX2_init 35 = .ok (.invokestatic 21, 3) := by decide +kernel
theorem dX2_init_38 : decode cX2_init 38 = .ok (.iconst 3, 1) := by decide +kernel
theorem dX2_init_39 : decode cX2_init 39 = .ok (.iload_n 2, 1) := by decide +kernel
theorem dX2_init_40 : decode cX2_init 40 = .ok (.bipush 7, 2) := by decide +kernel
theorem dX2_init_42 : decode cX2_init 42 = .ok (.invokestatic 21, 3) := by decide +kernel
theorem dX2_init_45 : decode cX2_init 45 = .ok (.invokespecial 25, 3) := by decide +kernel
theorem dX2_init_48 : decode cX2_init 48 = .ok (.putfield 28, 3) := by decide +kernel
theorem dX2_init_51 : decode cX2_init 51 = .ok (.aload_n 0, 1) := by decide +kernel
theorem dX2_init_52 : decode cX2_init 52 = .ok (.iconst 1, 1) := by decide +kernel
theorem dX2_init_53 : decode cX2_init 53 = .ok (.iload_n 3, 1) := by decide +kernel
theorem dX2_init_54 : decode cX2_init 54 = .ok (.bipush 60, 2) := by decide +kernel
theorem dX2_init_56 : decode cX2_init 56 = .ok (.invokestatic 21, 3) := by decide +kernel
theorem dX2_init_59 : decode cX2_init 59 = .ok (.putfield 32, 3) := by decide +kernel
theorem dX2_init_62 : decode cX2_init 62 = .ok (.aload_n 0, 1) := by decide +kernel
theorem dX2_init_63 : decode cX2_init 63 = .ok (.iconst 0, 1) := by decide +kernel
theorem dX2_init_64 : decode cX2_init 64 = .ok (.iconst 0, 1) := by decide +kernel
theorem dX2_init_65 : decode cX2_init 65 = .ok (.invokestatic 36, 3) := by decide +kernel
theorem dX2_init_68 : decode cX2_init 68 = .ok (.putfield 40, 3) := by decide +kernel
theorem dX2_init_71 : decode cX2_init 71 = .ok (.aload_n 0, 1) := by decide +kernel
theorem dX2_init_72 : decode cX2_init 72 = .ok (.aload_n 0, 1) := by decide +kernel
theorem dX2_init_73 : decode cX2_init 73 = .ok (.getfield 40, 3) := by decide +kernel
theorem dX2_init_76 : decode cX2_init 76 = .ok (.iconst 0, 1) := by decide +kernel
theorem dX2_init_77 : decode cX2_init 77 = .ok (.invokestatic 43, 3) := by decide +kernel
theorem dX2_init_80 : decode cX2_init 80 = .ok (.putfield 46, 3) := by decide +kernel
theorem dX2_init_83 : decode cX2_init 83 = .ok (.aload_n 0, 1) := by decide +kernel
theorem dX2_init_84 : decode cX2_init 84 = .ok (.invokevirtual 49, 3) := by decide +kernel
theorem dX2_init_87 : decode cX2_init 87 = .ok (.return_, 1) := by decide +kernel
theorem dX2_pillar_0 : decode cX2_pillar 0 = .ok (.aload_n 0, 1) := by decide +kernel
theorem dX2_pillar_1 : decode cX2_pillar 1 = .ok (.iload_n 1, 1) := by decide +kernel
theorem dX2_pillar_2 : decode cX2_pillar 2 = .ok (.iload_n 2, 1) := by decide +kernel
theorem dX2_pillar_3 : decode cX2_pillar 3 = .ok (.invokevirtual 52, 3) := by decide +kernel
theorem dX2_pillar_6 : decode cX2_pillar 6 = .ok (.iload_n 1, 1) := by decide +kernel
theorem dX2_pillar_7 : decode cX2_pillar 7 = .ok (.iload_n 2, 1) := by decide +kernel
theorem dX2_pillar_8 : decode cX2_pillar 8 = .ok (.invokestatic 36, 3) := by decide +kernel
theorem dX2_pillar_11 : decode cX2_pillar 11 = .ok (.istore_n 3, 1) := by decide +kernel
theorem dX2_pillar_12 : decode cX2_pillar 12 = .ok (.aload_n 0, 1) := by decide +kernel
theorem dX2_pillar_13 : decode cX2_pillar 13 = .ok (.getfield 46, 3) := by decide +kernel
theorem dX2_pillar_16 : decode cX2_pillar 16 = .ok (.aload_n 0, 1) := by decide +kernel
theorem dX2_pillar_17 : decode cX2_pillar 17 = .ok (.getfield 40, 3) := by decide +kernel
theorem dX2_pillar_20 : decode cX2_pillar 20 = .ok (.iconst 0, 1) := by decide +kernel
theorem dX2_pillar_21 : decode cX2_pillar 21 = .ok (.invokestatic 43, 3) := by decide +kernel
theorem dX2_pillar_24 : decode cX2_pillar 24 = .ok (.if_icmp .eq 7, 3) := by decide +kernel
theorem dX2_pillar_27 : decode cX2_pillar 27 = .ok (.iconst 1, 1) := by decide +kernel
theorem dX2_pillar_28 : decode cX2_pillar 28 = .ok (.goto 4, 3) := by decide +kernel
theorem dX2_pillar_31 : decode cX2_pillar 31 = .ok (.iconst 0, 1) := by decide +kernel
theorem dX2_pillar_32 : decode cX2_pillar 32 = .ok (.istore 4, 2) := by decide +kernel
theorem dX2_pillar_34 : decode cX2_pillar 34 = .ok (.iload 4, 2) := by decide +kernel
theorem dX2_pillar_36 : decode cX2_pillar 36 = .ok (.ifCond .ne 32, 3) := by decide +kernel
theorem dX2_pillar_39 : decode cX2_pillar 39 = .ok (.iload_n 3, 1) := by decide +kernel
theorem dX2_pillar_40 : decode cX2_pillar 40 = .ok (.aload_n 0, 1) := by decide +kernel
theorem dX2_pillar_41 : decode cX2_pillar 41 = .ok (.getfield 40, 3) := by decide +kernel
theorem dX2_pillar_44 : decode cX2_pillar 44 = .ok (.if_icmp .eq 24, 3) := by decide +kernel
theorem dX2_pillar_47 : decode cX2_pillar 47 = .ok (.aload_n 0, 1) := by decide +kernel
theorem dX2_pillar_48 : decode cX2_pillar 48 = .ok (.getfield 28, 3) := by decide +kernel
theorem dX2_pillar_51 : decode cX2_pillar 51 = .ok (.invokevirtual 55, 3) := by decide +kernel
theorem dX2_pillar_54 : decode cX2_pillar 54 = .ok (.ifCond .ne 14, 3) := by decide +kernel
theorem dX2_pillar_57 : decode cX2_pillar 57 = .ok (.aload_n 0, 1) := by decide +kernel
theorem dX2_pillar_58 : decode cX2_pillar 58 = .ok (.getfield 28, 3) := by decide +kernel
theorem dX2_pillar_61 : decode cX2_pillar 61 = .ok (.iload_n 3, 1) := by decide +kernel
theorem dX2_pillar_62 : decode cX2_pillar 62 = .ok (.invokevirtual 59, 3) := by decide +kernel
theorem dX2_pillar_65 : decode cX2_pillar 65 = .ok (.ifCond .eq 13, 3) := by decide +kernel
theorem dX2_pillar_68 : decode cX2_pillar 68 = .ok (.new 63, 3) := by decide +kernel
theorem dX2_pillar_71 : decode cX2_pillar 71 = .ok (.dup, 1) := by decide +kernel
theorem dX2_pillar_72 : decode cX2_pillar 72 = .ok (.ldc 65, 2) := by decide +kernel
theorem dX2_pillar_74 : decode cX2_pillar 74 = .ok (.invokespecial 67, 3) := by decide +kernel
theorem dX2_pillar_77 : decode cX2_pillar 77 = .ok (.athrow, 1) := by decide +kernel
theorem dX2_pillar_78 : decode cX2_pillar 78 = .ok (.aload_n 0, 1) := by decide +kernel
theorem dX2_pillar_79 : decode cX2_pillar 79 = .ok (.getfield 28, 3) := by decide +kernel
theorem dX2_pillar_82 : decode cX2_pillar 82 = .ok (.iload_n 3, 1) := by decide +kernel
theorem dX2_pillar_83 : decode cX2_pillar 83 = .ok (.invokevirtual 70, 3) := by decide +kernel
theorem dX2_pillar_86 : decode cX2_pillar 86 = .ok (.istore 5, 2) := by decide +kernel
theorem dX2_pillar_88 : decode cX2_pillar 88 = .ok (.aload_n 0, 1) := by decide +kernel
theorem dX2_pillar_89 : decode cX2_pillar 89 = .ok (.invokevirtual 49, 3) := by decide +kernel
theorem dX2_pillar_92 : decode cX2_pillar 92 = .ok (.iload 5, 2) := by decide +kernel
theorem dX2_pillar_94 : decode cX2_pillar 94 = .ok (.ireturn, 1) := by decide +kernel
theorem dX2_base_0 : decode cX2_base 0 = .ok (.aload_n 0, 1) := by decide +kernel
theorem dX2_base_1 : decode cX2_base 1 = .ok (.iload_n 1, 1) := by decide +kernel
theorem dX2_base_2 : decode cX2_base 2 = .ok (.iload_n 2, 1) := by decide +kernel
theorem dX2_base_3 : decode cX2_base 3 = .ok (.invokevirtual 52, 3) := by decide +kernel
theorem dX2_base_6 : decode cX2_base 6 = .ok (.iload_n 1, 1) := by decide +kernel
theorem dX2_base_7 : decode cX2_base 7 = .ok (.iload_n 2, 1) := by decide +kernel
theorem dX2_base_8 : decode cX2_base 8 = .ok (.invokestatic 36, 3) := by decide +kernel
theorem dX2_base_11 : decode cX2_base 11 = .ok (.istore_n 3, 1) := by decide +kernel
theorem dX2_base_12 : decode cX2_base 12 = .ok (.aload_n 0, 1) := by decide +kernel
theorem dX2_base_13 : decode cX2_base 13 = .ok (.getfield 28, 3) := by decide +kernel
theorem dX2_base_16 : decode cX2_base 16 = .ok (.iload_n 3, 1) := by decide +kernel
theorem dX2_base_17 : decode cX2_base 17 = .ok (.invokevirtual 59, 3) := by decide +kernel
theorem dX2_base_20 : decode cX2_base 20 = .ok (.ifCond .eq 13, 3) := by decide +kernel
theorem dX2_base_23 : decode cX2_base 23 = .ok (.new 63, 3) := by decide +kernel
theorem dX2_base_26 : decode cX2_base 26 = .ok (.dup, 1) := by decide +kernel
theorem dX2_base_27 : decode cX2_base 27 = .ok (.ldc 74, 2) := by decide +kernel
theorem dX2_base_29 : decode cX2_base 29 = .ok (.invokespecial 67, 3) := by decide +kernel
theorem dX2_base_32 : decode cX2_base 32 = .ok (.athrow, 1) := by decide +kernel
theorem dX2_base_33 : decode cX2_base 33 = .ok (.aload_n 0, 1) := by decide +kernel
theorem dX2_base_34 : decode cX2_base 34 = .ok (.iload_n 3, 1) := by decide +kernel
theorem dX2_base_35 : decode cX2_base 35 = .ok (.putfield 40, 3) := by decide +kernel
theorem dX2_base_38 : decode cX2_base 38 = .ok (.aload_n 0, 1) := by decide +kernel
theorem dX2_base_39 : decode cX2_base 39 = .ok (.aload_n 0, 1) := by decide +kernel
theorem dX2_base_40 : decode cX2_base 40 = .ok (.getfield 40, 3) := by decide +kernel
theorem dX2_base_43 : decode cX2_base 43 = .ok (.iconst 0, 1) := by decide +kernel
theorem dX2_base_44 : decode cX2_base 44 = .ok (.invokestatic 43, 3) := by decide +kernel
theorem dX2_base_47 : decode cX2_base 47 = .ok (.putfield 46, 3) := by decide +kernel
theorem dX2_base_50 : decode cX2_base 50 = .ok (.aload_n 0, 1) := by decide +kernel
theorem dX2_base_51 : decode cX2_base 51 = .ok (.iconst 0, 1) := by decide +kernel
theorem dX2_base_52 : decode cX2_base 52 = .ok (.putfield 76, 3) := by decide +kernel
theorem dX2_base_55 : decode cX2_base 55 = .ok (.aload_n 0, 1) := by decide +kernel
theorem dX2_base_56 : decode cX2_base 56 = .ok (.invokevirtual 49, 3) := by decide +kernel
theorem dX2_base_59 : decode cX2_base 59 = .ok (.return_, 1) := by decide +kernel
theorem dX2_step_0 : decode cX2_step 0 = .ok (.iload_n 1, 1) := by decide +kernel
theorem dX2_step_1 : decode cX2_step 1 = .ok (.ifCond .lt 8, 3) := by decide +kernel
theorem dX2_step_4 : decode cX2_step 4 = .ok (.iload_n 1, 1) := by decide +kernel
theorem dX2_step_5 : decode cX2_step 5 = .ok (.iconst 4, 1) := by decide +kernel
theorem dX2_step_6 : decode cX2_step 6 = .ok (.if_icmp .lt 13, 3) := by decide +kernel
theorem dX2_step_9 : decode cX2_step 9 = .ok (.new 79, 3) := by decide +kernel
theorem dX2_step_12 : decode cX2_step 12 = .ok (.dup, 1) := by decide +kernel
theorem dX2_step_13 : decode cX2_step 13 = .ok (.ldc 81, 2) := by decide +kernel
theorem dX2_step_15 : decode cX2_step 15 = .ok (.invokespecial 83, 3) := by decide +kernel
theorem dX2_step_18 : decode cX2_step 18 = .ok (.athrow, 1) := by decide +kernel
theorem dX2_step_19 : decode cX2_step 19 = .ok (.aload_n 0, 1) := by decide +kernel
theorem dX2_step_20 : decode cX2_step 20 = .ok (.aload_n 0, 1) := by decide +kernel
theorem dX2_step_21 : decode cX2_step 21 = .ok (.getfield 46, 3) := by decide +kernel
theorem dX2_step_24 : decode cX2_step 24 = .ok (.iload_n 1, 1) := by decide +kernel
theorem dX2_step_25 : decode cX2_step 25 = .ok (.invokevirtual 84, 3) := by decide +kernel
theorem dX2_step_28 : decode cX2_step 28 = .ok (.istore_n 2, 1) := by decide +kernel
theorem dX2_step_29 : decode cX2_step 29 = .ok (.iload_n 2, 1) := by decide +kernel
theorem dX2_step_30 : decode cX2_step 30 = .ok (.iconst (-1), 1) := by decide +kernel
theorem dX2_step_31 : decode cX2_step 31 = .ok (.if_icmp .ne 13, 3) := by decide +kernel
theorem dX2_step_34 : decode cX2_step 34 = .ok (.new 63, 3) := by decide +kernel
theorem dX2_step_37 : decode cX2_step 37 = .ok (.dup, 1) := by decide +kernel
theorem dX2_step_38 : decode cX2_step 38 = .ok (.ldc 87, 2) := by decide +kernel
theorem dX2_step_40 : decode cX2_step 40 = .ok (.invokespecial 67, 3) := by decide +kernel
theorem dX2_step_43 : decode cX2_step 43 = .ok (.athrow, 1) := by decide +kernel
theorem dX2_step_44 : decode cX2_step 44 = .ok (.aload_n 0, 1) := by decide +kernel
theorem dX2_step_45 : decode cX2_step 45 = .ok (.iload_n 2, 1) := by decide +kernel
theorem dX2_step_46 : decode cX2_step 46 = .ok (.putfield 46, 3) := by decide +kernel
theorem dX2_step_49 : decode cX2_step 49 = .ok (.aload_n 0, 1) := by decide +kernel
theorem dX2_step_50 : decode cX2_step 50 = .ok (.dup, 1) := by decide +kernel
theorem dX2_step_51 : decode cX2_step 51 = .ok (.getfield 76, 3) := by decide +kernel
theorem dX2_step_54 : decode cX2_step 54 = .ok (.iconst 1, 1) := by decide +kernel
theorem dX2_step_55 : decode cX2_step 55 = .ok (.iadd, 1) := by decide +kernel
theorem dX2_step_56 : decode cX2_step 56 = .ok (.putfield 76, 3) := by decide +kernel
theorem dX2_step_59 : decode cX2_step 59 = .ok (.aload_n 0, 1) := by decide +kernel
theorem dX2_step_60 : decode cX2_step 60 = .ok (.invokevirtual 89, 3) := by decide +kernel
theorem dX2_step_63 : decode cX2_step 63 = .ok (.ireturn, 1) := by decide +kernel
theorem dX2_go_0 : decode cX2_go 0 = .ok (.aload_n 0, 1) := by decide +kernel
theorem dX2_go_1 : decode cX2_go 1 = .ok (.iload_n 1, 1) := by decide +kernel
theorem dX2_go_2 : decode cX2_go 2 = .ok (.iload_n 2, 1) := by decide +kernel
theorem dX2_go_3 : decode cX2_go 3 = .ok (.invokevirtual 52, 3) := by decide +kernel
theorem dX2_go_6 : decode cX2_go 6 = .ok (.aload_n 0, 1) := by decide +kernel
theorem dX2_go_7 : decode cX2_go 7 = .ok (.iload_n 1, 1) := by decide +kernel
theorem dX2_go_8 : decode cX2_go 8 = .ok (.iload_n 2, 1) := by decide +kernel
theorem dX2_go_9 : decode cX2_go 9 = .ok (.invokestatic 36, 3) := by decide +kernel
theorem dX2_go_12 : decode cX2_go 12 = .ok (.invokevirtual 93, 3) := by decide +kernel
theorem dX2_go_15 : decode cX2_go 15 = .ok (.istore_n 3, 1) := by decide +kernel
theorem dX2_go_16 : decode cX2_go 16 = .ok (.iload_n 3, 1) := by decide +kernel
theorem dX2_go_17 : decode cX2_go 17 = .ok (.iconst (-1), 1) := by decide +kernel
theorem dX2_go_18 : decode cX2_go 18 = .ok (.if_icmp .ne 13, 3) := by decide +kernel
theorem dX2_go_21 : decode cX2_go 21 = .ok (.new 96, 3) := by decide +kernel
theorem dX2_go_24 : decode cX2_go 24 = .ok (.dup, 1) := by decide +kernel
theorem dX2_go_25 : decode cX2_go 25 = .ok (.ldc 98, 2) := by decide +kernel
theorem dX2_go_27 : decode cX2_go 27 = .ok (.invokespecial 100, 3) := by decide +kernel
theorem dX2_go_30 : decode cX2_go 30 = .ok (.athrow, 1) := by decide +kernel
theorem dX2_go_31 : decode cX2_go 31 = .ok (.aload_n 0, 1) := by decide +kernel
theorem dX2_go_32 : decode cX2_go 32 = .ok (.getfield 16, 3) := by decide +kernel
theorem dX2_go_35 : decode cX2_go 35 = .ok (.iload_n 3, 1) := by decide +kernel
theorem dX2_go_36 : decode cX2_go 36 = .ok (.invokevirtual 101, 3) := by decide +kernel
theorem dX2_go_39 : decode cX2_go 39 = .ok (.istore 4, 2) := by decide +kernel
theorem dX2_go_41 : decode cX2_go 41 = .ok (.aload_n 0, 1) := by decide +kernel
theorem dX2_go_42 : decode cX2_go 42 = .ok (.iload_n 3, 1) := by decide +kernel
theorem dX2_go_43 : decode cX2_go 43 = .ok (.putfield 46, 3) := by decide +kernel
theorem dX2_go_46 : decode cX2_go 46 = .ok (.aload_n 0, 1) := by decide +kernel
theorem dX2_go_47 : decode cX2_go 47 = .ok (.dup, 1) := by decide +kernel
theorem dX2_go_48 : decode cX2_go 48 = .ok (.getfield 76, 3) := by decide +kernel
theorem dX2_go_51 : decode cX2_go 51 = .ok (.iload 4, 2) := by decide +kernel
theorem dX2_go_53 : decode cX2_go 53 = .ok (.iadd, 1) := by decide +kernel
theorem dX2_go_54 : decode cX2_go 54 = .ok (.putfield 76, 3) := by decide +kernel
theorem dX2_go_57 : decode cX2_go 57 = .ok (.iload 4, 2) := by decide +kernel
theorem dX2_go_59 : decode cX2_go 59 = .ok (.ireturn, 1) := by decide +kernel
theorem dX2_back_0 : decode cX2_back 0 = .ok (.iload_n 1, 1) := by decide +kernel
theorem dX2_back_1 : decode cX2_back 1 = .ok (.iconst 1, 1) := by decide +kernel
theorem dX2_back_2 : decode cX2_back 2 = .ok (.if_icmp .lt 9, 3) := by decide +kernel
theorem dX2_back_5 : decode cX2_back 5 = .ok (.iload_n 1, 1) := by decide +kernel
theorem dX2_back_6 : decode cX2_back 6 = .ok (.bipush 60, 2) := by decide +kernel
theorem dX2_back_8 : decode cX2_back 8 = .ok (.if_icmp .le 13, 3) := by decide +kernel
theorem dX2_back_11 : decode cX2_back 11 = .ok (.new 79, 3) := by decide +kernel
theorem dX2_back_14 : decode cX2_back 14 = .ok (.dup, 1) := by decide +kernel
theorem dX2_back_15 : decode cX2_back 15 = .ok (.ldc 104, 2) := by decide +kernel
theorem dX2_back_17 : decode cX2_back 17 = .ok (.invokespecial 83, 3) := by decide +kernel
theorem dX2_back_20 : decode cX2_back 20 = .ok (.athrow, 1) := by decide +kernel
theorem dX2_back_21 : decode cX2_back 21 = .ok (.iload_n 1, 1) := by decide +kernel
theorem dX2_back_22 : decode cX2_back 22 = .ok (.aload_n 0, 1) := by decide +kernel
theorem dX2_back_23 : decode cX2_back 23 = .ok (.invokevirtual 89, 3) := by decide +kernel
theorem dX2_back_26 : decode cX2_back 26 = .ok (.invokestatic 106, 3) := by decide +kernel
theorem dX2_back_29 : decode cX2_back 29 = .ok (.istore_n 2, 1) := by decide +kernel
theorem dX2_back_30 : decode cX2_back 30 = .ok (.aload_n 0, 1) := by decide +kernel
theorem dX2_back_31 : decode cX2_back 31 = .ok (.aload_n 0, 1) := by decide +kernel
theorem dX2_back_32 : decode cX2_back 32 = .ok (.iload_n 2, 1) := by decide +kernel
theorem dX2_back_33 : decode cX2_back 33 = .ok (.invokevirtual 111, 3) := by decide +kernel
theorem dX2_back_36 : decode cX2_back 36 = .ok (.putfield 46, 3) := by decide +kernel
theorem dX2_back_39 : decode cX2_back 39 = .ok (.aload_n 0, 1) := by decide +kernel
theorem dX2_back_40 : decode cX2_back 40 = .ok (.dup, 1) := by decide +kernel
theorem dX2_back_41 : decode cX2_back 41 = .ok (.getfield 76, 3) := by decide +kernel
theorem dX2_back_44 : decode cX2_back 44 = .ok (.iload_n 2, 1) := by decide +kernel
theorem dX2_back_45 : decode cX2_back 45 = .ok (.iadd, 1) := by decide +kernel
theorem dX2_back_46 : decode cX2_back 46 = .ok (.putfield 76, 3) := by decide +kernel
theorem dX2_back_49 : decode cX2_back 49 = .ok (.iload_n 2, 1) := by decide +kernel
theorem dX2_back_50 : decode cX2_back 50 = .ok (.ireturn, 1) := by decide +kernel
theorem dX2_column_0 : decode cX2_column 0 = .ok (.aload_n 0, 1) := by decide +kernel
theorem dX2_column_1 : decode cX2_column 1 = .ok (.getfield 46, 3) := by decide +kernel
theorem dX2_column_4 : decode cX2_column 4 = .ok (.invokestatic 114, 3) := by decide +kernel
theorem dX2_column_7 : decode cX2_column 7 = .ok (.invokestatic 117, 3) := by decide +kernel
theorem dX2_column_10 : decode cX2_column 10 = .ok (.ireturn, 1) := by decide +kernel
theorem dX2_row_0 : decode cX2_row 0 = .ok (.aload_n 0, 1) := by decide +kernel
theorem dX2_row_1 : decode cX2_row 1 = .ok (.getfield 46, 3) := by decide +kernel
theorem dX2_row_4 : decode cX2_row 4 = .ok (.invokestatic 114, 3) := by decide +kernel
theorem dX2_row_7 : decode cX2_row 7 = .ok (.invokestatic 120, 3) := by decide +kernel
theorem dX2_row_10 : decode cX2_row 10 = .ok (.ireturn, 1) := by decide +kernel
theorem dX2_letters_0 : decode cX2_letters 0 = .ok (.aload_n 0, 1) := by decide +kernel
theorem dX2_letters_1 : decode cX2_letters 1 = .ok (.getfield 46, 3) := by decide +kernel
theorem dX2_letters_4 : decode cX2_letters 4 = .ok (.invokestatic 123, 3) := by decide +kernel
theorem dX2_letters_7 : decode cX2_letters 7 = .ok (.invokestatic 126, 3) := by decide +kernel
theorem dX2_letters_10 : decode cX2_letters 10 = .ok (.ireturn, 1) := by decide +kernel
theorem dX2_letterAt_0 : decode cX2_letterAt 0 = .ok (.aload_n 0, 1) := by decide +kernel
theorem dX2_letterAt_1 : decode cX2_letterAt 1 = .ok (.invokevirtual 129, 3) := by decide +kernel
theorem dX2_letterAt_4 : decode cX2_letterAt 4 = .ok (.istore_n 2, 1) := by decide +kernel
theorem dX2_letterAt_5 : decode cX2_letterAt 5 = .ok (.iload_n 1, 1) := by decide +kernel
theorem dX2_letterAt_6 : decode cX2_letterAt 6 = .ok (.ifCond .lt 8, 3) := by decide +kernel
theorem dX2_letterAt_9 : decode cX2_letterAt 9 = .ok (.iload_n 1, 1) := by decide +kernel
theorem dX2_letterAt_10 : decode cX2_letterAt 10 = .ok (.iload_n 2, 1) := by decide +kernel
theorem dX2_letterAt_11 : decode cX2_letterAt 11 = .ok (.if_icmp .lt 13, 3) := by decide +kernel
theorem dX2_letterAt_14 : decode cX2_letterAt 14 = .ok (.new 132, 3) := by decide +kernel
theorem dX2_letterAt_17 : decode cX2_letterAt 17 = .ok (.dup, 1) := by decide +kernel
theorem dX2_letterAt_18 : decode cX2_letterAt 18 = .ok (.ldc 134, 2) := by decide +kernel
theorem dX2_letterAt_20 : decode cX2_letterAt 20 = .ok (.invokespecial 136, 3) := by decide +kernel
theorem dX2_letterAt_23 : decode cX2_letterAt 23 = .ok (.athrow, 1) := by decide +kernel
theorem dX2_letterAt_24 : decode cX2_letterAt 24 = .ok (.aload_n 0, 1) := by decide +kernel
theorem dX2_letterAt_25 : decode cX2_letterAt 25 = .ok (.getfield 46, 3) := by decide +kernel
theorem dX2_letterAt_28 : decode cX2_letterAt 28 = .ok (.invokestatic 123, 3) := by decide +kernel
theorem dX2_letterAt_31 : decode cX2_letterAt 31 = .ok (.istore_n 3, 1) := by decide +kernel
theorem dX2_letterAt_32 : decode cX2_letterAt 32 = .ok (.iload_n 2, 1) := by decide +kernel
theorem dX2_letterAt_33 : decode cX2_letterAt 33 = .ok (.iconst 1, 1) := by decide +kernel
theorem dX2_letterAt_34 : decode cX2_letterAt 34 = .ok (.isub, 1) := by decide +kernel
theorem dX2_letterAt_35 : decode cX2_letterAt 35 = .ok (.istore 4, 2) := by decide +kernel
theorem dX2_letterAt_37 : decode cX2_letterAt 37 = .ok (.iload 4, 2) := by decide +kernel
theorem dX2_letterAt_39 : decode cX2_letterAt 39 = .ok (.iload_n 1, 1) := by decide +kernel
theorem dX2_letterAt_40 : decode cX2_letterAt 40 = .ok (.if_icmp .le 14, 3) := by decide +kernel
theorem dX2_letterAt_43 : decode cX2_letterAt 43 = .ok (.iload_n 3, 1) := by decide +kernel
theorem dX2_letterAt_44 : decode cX2_letterAt 44 = .ok (.bipush 7, 2) := by decide +kernel
theorem dX2_letterAt_46 : decode cX2_letterAt 46 = .ok (.idiv, 1) := by decide +kernel
theorem dX2_letterAt_47 : decode cX2_letterAt 47 = .ok (.istore_n 3, 1) := by decide +kernel
theorem dX2_letterAt_48 : decode cX2_letterAt 48 = .ok (.iinc 4 (-1), 3) := by decide +kernel
theorem dX2_letterAt_51 : decode cX2_letterAt 51 = .ok (.goto (-14), 3) := by decide +kernel
theorem dX2_letterAt_54 : decode cX2_letterAt 54 = .ok (.iload_n 3, 1) := by decide +kernel
theorem dX2_letterAt_55 : decode cX2_letterAt 55 = .ok (.invokestatic 137, 3) := by decide +kernel
theorem dX2_letterAt_58 : decode cX2_letterAt 58 = .ok (.ireturn, 1) := by decide +kernel
theorem dX2_length_0 : decode cX2_length 0 = .ok (.aload_n 0, 1) := by decide +kernel
theorem dX2_length_1 : decode cX2_length 1 = .ok (.getfield 12, 3) := by decide +kernel
theorem dX2_length_4 : decode cX2_length 4 = .ok (.aload_n 0, 1) := by decide +kernel
theorem dX2_length_5 : decode cX2_length 5 = .ok (.getfield 46, 3) := by decide +kernel
theorem dX2_length_8 : decode cX2_length 8 = .ok (.invokevirtual 101, 3) := by decide +kernel
theorem dX2_length_11 : decode cX2_length 11 = .ok (.ireturn, 1) := by decide +kernel
theorem dX2_slack_0 : decode cX2_slack 0 = .ok (.aload_n 0, 1) := by decide +kernel
theorem dX2_slack_1 : decode cX2_slack 1 = .ok (.getfield 32, 3) := by decide +kernel
theorem dX2_slack_4 : decode cX2_slack 4 = .ok (.aload_n 0, 1) := by decide +kernel
theorem dX2_slack_5 : decode cX2_slack 5 = .ok (.invokevirtual 89, 3) := by decide +kernel
theorem dX2_slack_8 : decode cX2_slack 8 = .ok (.isub, 1) := by decide +kernel
theorem dX2_slack_9 : decode cX2_slack 9 = .ok (.ireturn, 1) := by decide +kernel
theorem dX2_steps_0 : decode cX2_steps 0 = .ok (.aload_n 0, 1) := by decide +kernel
theorem dX2_steps_1 : decode cX2_steps 1 = .ok (.getfield 76, 3) := by decide +kernel
theorem dX2_steps_4 : decode cX2_steps 4 = .ok (.ireturn, 1) := by decide +kernel
theorem dX2_lengthByTrying_0 : decode cX2_lengthByTrying 0 = .ok (.iload_n 1, 1) := by decide +kernel
theorem dX2_lengthByTrying_1 : decode cX2_lengthByTrying 1 = .ok (.ifCond .lt 9, 3) := by decide +kernel
theorem dX2_lengthByTrying_4 : decode cX2_lengthByTrying 4 = .ok (.iload_n 1, 1) := by decide +kernel
theorem dX2_lengthByTrying_5 : decode cX2_lengthByTrying 5 = .ok (.bipush 8, 2) := by decide +kernel
theorem dX2_lengthByTrying_7 : decode cX2_lengthByTrying 7 = .ok (.if_icmp .le 13, 3) := by decide +kernel
theorem dX2_lengthByTrying_10 : decode cX2_lengthByTrying 10 = .ok (.new 79, 3) := by decide +kernel
theorem dX2_lengthByTrying_13 : decode cX2_lengthByTrying 13 = .ok (.dup, 1) := by decide +kernel
theorem dX2_lengthByTrying_14 : decode cX2_lengthByTrying 14 = .ok (.ldc 140, 2) := by decide +kernel
theorem dX2_lengthByTrying_16 : decode cX2_lengthByTrying 16 = .ok (.invokespecial 83, 3) := by decide +kernel
theorem dX2_lengthByTrying_19 : decode cX2_lengthByTrying 19 = .ok (.athrow, 1) := by decide +kernel
theorem dX2_lengthByTrying_20 : decode cX2_lengthByTrying 20 = .ok (.aload_n 0, 1) := by decide +kernel
theorem dX2_lengthByTrying_21 : decode cX2_lengthByTrying 21 = .ok (.getfield 28, 3) := by decide +kernel
theorem dX2_lengthByTrying_24 : decode cX2_lengthByTrying 24 = .ok (.aload_n 0, 1) := by decide +kernel
theorem dX2_lengthByTrying_25 : decode cX2_lengthByTrying 25 = .ok (.getfield 40, 3) := by decide +kernel
theorem dX2_lengthByTrying_28 : decode cX2_lengthByTrying 28 = .ok (.iconst 0, 1) := by decide +kernel
theorem dX2_lengthByTrying_29 : decode cX2_lengthByTrying 29 = .ok (.invokestatic 43, 3) := by decide +kernel
theorem dX2_lengthByTrying_32 : decode cX2_lengthByTrying 32 = .ok (.aload_n 0, 1) := by decide +kernel
theorem dX2_lengthByTrying_33 : decode cX2_lengthByTrying 33 = .ok (.getfield 46, 3) := by decide +kernel
theorem dX2_lengthByTrying_36 : decode cX2_lengthByTrying 36 = .ok (.iconst 0, 1) := by decide +kernel
theorem dX2_lengthByTrying_37 : decode cX2_lengthByTrying 37 = .ok (.iload_n 1, 1) := by decide +kernel
theorem dX2_lengthByTrying_38 : decode cX2_lengthByTrying 38 = .ok (.invokestatic 142, 3) := by decide +kernel
theorem dX2_lengthByTrying_41 : decode cX2_lengthByTrying 41 = .ok (.istore_n 2, 1) := by decide +kernel
theorem dX2_lengthByTrying_42 : decode cX2_lengthByTrying 42 = .ok (.iload_n 2, 1) := by decide +kernel
theorem dX2_lengthByTrying_43 : decode cX2_lengthByTrying 43 = .ok (.iload_n 1, 1) := by decide +kernel
theorem dX2_lengthByTrying_44 : decode cX2_lengthByTrying 44 = .ok (.if_icmp .le 7, 3) := by decide +kernel
theorem dX2_lengthByTrying_47 : decode cX2_lengthByTrying 47 = .ok (.iconst (-1), 1) := by decide +kernel
theorem dX2_lengthByTrying_48 : decode cX2_lengthByTrying 48 = .ok (.goto 4, 3) := by decide +kernel
theorem dX2_lengthByTrying_51 : decode cX2_lengthByTrying 51 = .ok (.iload_n 2, 1) := by decide +kernel
theorem dX2_lengthByTrying_52 : decode cX2_lengthByTrying 52 = .ok (.ireturn, 1) := by decide +kernel
theorem dX2_cableAt_0 : decode cX2_cableAt 0 = .ok (.iload_n 1, 1) := by decide +kernel
theorem dX2_cableAt_1 : decode cX2_cableAt 1 = .ok (.ifCond .lt 11, 3) := by decide +kernel
theorem dX2_cableAt_4 : decode cX2_cableAt 4 = .ok (.iload_n 1, 1) := by decide +kernel
theorem dX2_cableAt_5 : decode cX2_cableAt 5 = .ok (.aload_n 0, 1) := by decide +kernel
theorem dX2_cableAt_6 : decode cX2_cableAt 6 = .ok (.invokevirtual 89, 3) := by decide +kernel
theorem dX2_cableAt_9 : decode cX2_cableAt 9 = .ok (.if_icmp .le 13, 3) := by decide +kernel
theorem dX2_cableAt_12 : decode cX2_cableAt 12 = .ok (.new 132, 3) := by decide +kernel
theorem dX2_cableAt_15 : decode cX2_cableAt 15 = .ok (.dup, 1) := by decide +kernel
theorem dX2_cableAt_16 : decode cX2_cableAt 16 = .ok (.ldc 146, 2) := by decide +kernel
theorem dX2_cableAt_18 : decode cX2_cableAt 18 = .ok (.invokespecial 136, 3) := by decide +kernel
theorem dX2_cableAt_21 : decode cX2_cableAt 21 = .ok (.athrow, 1) := by decide +kernel
theorem dX2_cableAt_22 : decode cX2_cableAt 22 = .ok (.aload_n 0, 1) := by decide +kernel
theorem dX2_cableAt_23 : decode cX2_cableAt 23 = .ok (.iload_n 1, 1) := by decide +kernel
theorem dX2_cableAt_24 : decode cX2_cableAt 24 = .ok (.invokevirtual 111, 3) := by decide +kernel
theorem dX2_cableAt_27 : decode cX2_cableAt 27 = .ok (.invokestatic 114, 3) := by decide +kernel
theorem dX2_cableAt_30 : decode cX2_cableAt 30 = .ok (.istore_n 2, 1) := by decide +kernel
theorem dX2_cableAt_31 : decode cX2_cableAt 31 = .ok (.bipush 10, 2) := by decide +kernel
theorem dX2_cableAt_33 : decode cX2_cableAt 33 = .ok (.iload_n 2, 1) := by decide +kernel
theorem dX2_cableAt_34 : decode cX2_cableAt 34 = .ok (.invokestatic 117, 3) := by decide +kernel
theorem dX2_cableAt_37 : decode cX2_cableAt 37 = .ok (.imul, 1) := by decide +kernel
theorem dX2_cableAt_38 : decode cX2_cableAt 38 = .ok (.iload_n 2, 1) := by decide +kernel
theorem dX2_cableAt_39 : decode cX2_cableAt 39 = .ok (.invokestatic 120, 3) := by decide +kernel
theorem dX2_cableAt_42 : decode cX2_cableAt 42 = .ok (.iadd, 1) := by decide +kernel
theorem dX2_cableAt_43 : decode cX2_cableAt 43 = .ok (.ireturn, 1) := by decide +kernel
theorem dX2_bends_0 : decode cX2_bends 0 = .ok (.iconst 0, 1) := by decide +kernel
theorem dX2_bends_1 : decode cX2_bends 1 = .ok (.istore_n 1, 1) := by decide +kernel
theorem dX2_bends_2 : decode cX2_bends 2 = .ok (.aload_n 0, 1) := by decide +kernel
theorem dX2_bends_3 : decode cX2_bends 3 = .ok (.getfield 46, 3) := by decide +kernel
theorem dX2_bends_6 : decode cX2_bends 6 = .ok (.istore_n 2, 1) := by decide +kernel
theorem dX2_bends_7 : decode cX2_bends 7 = .ok (.aload_n 0, 1) := by decide +kernel
theorem dX2_bends_8 : decode cX2_bends 8 = .ok (.iload_n 2, 1) := by decide +kernel
theorem dX2_bends_9 : decode cX2_bends 9 = .ok (.invokevirtual 148, 3) := by decide +kernel
theorem dX2_bends_12 : decode cX2_bends 12 = .ok (.istore_n 3, 1) := by decide +kernel
theorem dX2_bends_13 : decode cX2_bends 13 = .ok (.aload_n 0, 1) := by decide +kernel
theorem dX2_bends_14 : decode cX2_bends 14 = .ok (.invokevirtual 89, 3) := by decide +kernel
theorem dX2_bends_17 : decode cX2_bends 17 = .ok (.istore 4, 2) := by decide +kernel
theorem dX2_bends_19 : decode cX2_bends 19 = .ok (.iload 4, 2) := by decide +kernel
theorem dX2_bends_21 : decode cX2_bends 21 = .ok (.iconst 1, 1) := by decide +kernel
theorem dX2_bends_22 : decode cX2_bends 22 = .ok (.if_icmp .le 38, 3) := by decide +kernel
theorem dX2_bends_25 : decode cX2_bends 25 = .ok (.aload_n 0, 1) := by decide +kernel
theorem dX2_bends_26 : decode cX2_bends 26 = .ok (.getfield 28, 3) := by decide +kernel
theorem dX2_bends_29 : decode cX2_bends 29 = .ok (.iload_n 2, 1) := by decide +kernel
theorem dX2_bends_30 : decode cX2_bends 30 = .ok (.iload_n 3, 1) := by decide +kernel
theorem dX2_bends_31 : decode cX2_bends 31 = .ok (.invokevirtual 151, 3) := by decide +kernel
theorem dX2_bends_34 : decode cX2_bends 34 = .ok (.istore_n 2, 1) := by decide +kernel
theorem dX2_bends_35 : decode cX2_bends 35 = .ok (.aload_n 0, 1) := by decide +kernel
theorem dX2_bends_36 : decode cX2_bends 36 = .ok (.iload_n 2, 1) := by decide +kernel
theorem dX2_bends_37 : decode cX2_bends 37 = .ok (.invokevirtual 148, 3) := by decide +kernel
theorem dX2_bends_40 : decode cX2_bends 40 = .ok (.istore 5, 2) := by decide +kernel
theorem dX2_bends_42 : decode cX2_bends 42 = .ok (.iload 5, 2) := by decide +kernel
theorem dX2_bends_44 : decode cX2_bends 44 = .ok (.iload_n 3, 1) := by decide +kernel
theorem dX2_bends_45 : decode cX2_bends 45 = .ok (.if_icmp .eq 6, 3) := by decide +kernel
theorem dX2_bends_48 : decode cX2_bends 48 = .ok (.iinc 1 1, 3) := by decide +kernel
theorem dX2_bends_51 : decode cX2_bends 51 = .ok (.iload 5, 2) := by decide +kernel
theorem dX2_bends_53 : decode cX2_bends 53 = .ok (.istore_n 3, 1) := by decide +kernel
theorem dX2_bends_54 : decode cX2_bends 54 = .ok (.iinc 4 (-1), 3) := by decide +kernel
theorem dX2_bends_57 : decode cX2_bends 57 = .ok (.goto (-38), 3) := by decide +kernel
theorem dX2_bends_60 : decode cX2_bends 60 = .ok (.iload_n 1, 1) := by decide +kernel
theorem dX2_bends_61 : decode cX2_bends 61 = .ok (.ireturn, 1) := by decide +kernel
theorem dX2_least_0 : decode cX2_least 0 = .ok (.aload_n 0, 1) := by decide +kernel
theorem dX2_least_1 : decode cX2_least 1 = .ok (.iload_n 1, 1) := by decide +kernel
theorem dX2_least_2 : decode cX2_least 2 = .ok (.iload_n 2, 1) := by decide +kernel
theorem dX2_least_3 : decode cX2_least 3 = .ok (.invokevirtual 52, 3) := by decide +kernel
theorem dX2_least_6 : decode cX2_least 6 = .ok (.aload_n 0, 1) := by decide +kernel
theorem dX2_least_7 : decode cX2_least 7 = .ok (.iload_n 1, 1) := by decide +kernel
theorem dX2_least_8 : decode cX2_least 8 = .ok (.iload_n 2, 1) := by decide +kernel
theorem dX2_least_9 : decode cX2_least 9 = .ok (.invokestatic 36, 3) := by decide +kernel
theorem dX2_least_12 : decode cX2_least 12 = .ok (.invokevirtual 154, 3) := by decide +kernel
theorem dX2_least_15 : decode cX2_least 15 = .ok (.ireturn, 1) := by decide +kernel
theorem dX2_missing_0 : decode cX2_missing 0 = .ok (.aload_n 0, 1) := by decide +kernel
theorem dX2_missing_1 : decode cX2_missing 1 = .ok (.iload_n 1, 1) := by decide +kernel
theorem dX2_missing_2 : decode cX2_missing 2 = .ok (.iload_n 2, 1) := by decide +kernel
theorem dX2_missing_3 : decode cX2_missing 3 = .ok (.invokevirtual 52, 3) := by decide +kernel
theorem dX2_missing_6 : decode cX2_missing 6 = .ok (.aload_n 0, 1) := by decide +kernel
theorem dX2_missing_7 : decode cX2_missing 7 = .ok (.iload_n 1, 1) := by decide +kernel
theorem dX2_missing_8 : decode cX2_missing 8 = .ok (.iload_n 2, 1) := by decide +kernel
theorem dX2_missing_9 : decode cX2_missing 9 = .ok (.invokestatic 36, 3) := by decide +kernel
theorem dX2_missing_12 : decode cX2_missing 12 = .ok (.invokevirtual 154, 3) := by decide +kernel
theorem dX2_missing_15 : decode cX2_missing 15 = .ok (.istore_n 3, 1) := by decide +kernel
theorem dX2_missing_16 : decode cX2_missing 16 = .ok (.iload_n 3, 1) := by decide +kernel
theorem dX2_missing_17 : decode cX2_missing 17 = .ok (.iconst (-1), 1) := by decide +kernel
theorem dX2_missing_18 : decode cX2_missing 18 = .ok (.if_icmp .ne 7, 3) := by decide +kernel
theorem dX2_missing_21 : decode cX2_missing 21 = .ok (.iconst (-1), 1) := by decide +kernel
theorem dX2_missing_22 : decode cX2_missing 22 = .ok (.goto 13, 3) := by decide +kernel
theorem dX2_missing_25 : decode cX2_missing 25 = .ok (.iconst 0, 1) := by decide +kernel
theorem dX2_missing_26 : decode cX2_missing 26 = .ok (.iload_n 3, 1) := by decide +kernel
theorem dX2_missing_27 : decode cX2_missing 27 = .ok (.aload_n 0, 1) := by decide +kernel
theorem dX2_missing_28 : decode cX2_missing 28 = .ok (.getfield 32, 3) := by decide +kernel
theorem dX2_missing_31 : decode cX2_missing 31 = .ok (.isub, 1) := by decide +kernel
theorem dX2_missing_32 : decode cX2_missing 32 = .ok (.invokestatic 157, 3) := by decide +kernel
theorem dX2_missing_35 : decode cX2_missing 35 = .ok (.ireturn, 1) := by decide +kernel
theorem dX2_words_0 : decode cX2_words 0 = .ok (.aload_n 0, 1) := by decide +kernel
theorem dX2_words_1 : decode cX2_words 1 = .ok (.iload_n 1, 1) := by decide +kernel
theorem dX2_words_2 : decode cX2_words 2 = .ok (.iload_n 2, 1) := by decide +kernel
theorem dX2_words_3 : decode cX2_words 3 = .ok (.invokevirtual 52, 3) := by decide +kernel
theorem dX2_words_6 : decode cX2_words 6 = .ok (.iload_n 1, 1) := by decide +kernel
theorem dX2_words_7 : decode cX2_words 7 = .ok (.iload_n 2, 1) := by decide +kernel
theorem dX2_words_8 : decode cX2_words 8 = .ok (.invokestatic 36, 3) := by decide +kernel
theorem dX2_words_11 : decode cX2_words 11 = .ok (.istore_n 3, 1) := by decide +kernel
theorem dX2_words_12 : decode cX2_words 12 = .ok (.iconst 0, 1) := by decide +kernel
theorem dX2_words_13 : decode cX2_words 13 = .ok (.istore 4, 2) := by decide +kernel
theorem dX2_words_15 : decode cX2_words 15 = .ok (.iconst 0, 1) := by decide +kernel
theorem dX2_words_16 : decode cX2_words 16 = .ok (.istore 5, 2) := by decide +kernel
theorem dX2_words_18 : decode cX2_words 18 = .ok (.iload 5, 2) := by decide +kernel
theorem dX2_words_20 : decode cX2_words 20 = .ok (.sipush 343, 3) := by decide +kernel
theorem dX2_words_23 : decode cX2_words 23 = .ok (.if_icmp .ge 32, 3) := by decide +kernel
theorem dX2_words_26 : decode cX2_words 26 = .ok (.aload_n 0, 1) := by decide +kernel
theorem dX2_words_27 : decode cX2_words 27 = .ok (.aload_n 0, 1) := by decide +kernel
theorem dX2_words_28 : decode cX2_words 28 = .ok (.getfield 12, 3) := by decide +kernel
theorem dX2_words_31 : decode cX2_words 31 = .ok (.iload_n 3, 1) := by decide +kernel
theorem dX2_words_32 : decode cX2_words 32 = .ok (.iload 5, 2) := by decide +kernel
theorem dX2_words_34 : decode cX2_words 34 = .ok (.invokestatic 43, 3) := by decide +kernel
theorem dX2_words_37 : decode cX2_words 37 = .ok (.invokevirtual 101, 3) := by decide +kernel
theorem dX2_words_40 : decode cX2_words 40 = .ok (.invokevirtual 160, 3) := by decide +kernel
theorem dX2_words_43 : decode cX2_words 43 = .ok (.ifCond .eq 6, 3) := by decide +kernel
theorem dX2_words_46 : decode cX2_words 46 = .ok (.iinc 4 1, 3) := by decide +kernel
theorem dX2_words_49 : decode cX2_words 49 = .ok (.iinc 5 1, 3) := by decide +kernel
theorem dX2_words_52 : decode cX2_words 52 = .ok (.goto (-34), 3) := by decide +kernel
theorem dX2_words_55 : decode cX2_words 55 = .ok (.iload 4, 2) := by decide +kernel
theorem dX2_words_57 : decode cX2_words 57 = .ok (.ireturn, 1) := by decide +kernel
theorem dX2_squares_0 : decode cX2_squares 0 = .ok (.iconst 0, 1) := by decide +kernel
theorem dX2_squares_1 : decode cX2_squares 1 = .ok (.istore_n 1, 1) := by decide +kernel
theorem dX2_squares_2 : decode cX2_squares 2 = .ok (.iconst 0, 1) := by decide +kernel
theorem dX2_squares_3 : decode cX2_squares 3 = .ok (.istore_n 2, 1) := by decide +kernel
theorem dX2_squares_4 : decode cX2_squares 4 = .ok (.iload_n 2, 1) := by decide +kernel
theorem dX2_squares_5 : decode cX2_squares 5 = .ok (.bipush 49, 2) := by decide +kernel
theorem dX2_squares_7 : decode cX2_squares 7 = .ok (.if_icmp .ge 24, 3) := by decide +kernel
theorem dX2_squares_10 : decode cX2_squares 10 = .ok (.aload_n 0, 1) := by decide +kernel
theorem dX2_squares_11 : decode cX2_squares 11 = .ok (.aload_n 0, 1) := by decide +kernel
theorem dX2_squares_12 : decode cX2_squares 12 = .ok (.iload_n 2, 1) := by decide +kernel
theorem dX2_squares_13 : decode cX2_squares 13 = .ok (.invokevirtual 154, 3) := by decide +kernel
theorem dX2_squares_16 : decode cX2_squares 16 = .ok (.invokevirtual 160, 3) := by decide +kernel
theorem dX2_squares_19 : decode cX2_squares 19 = .ok (.ifCond .eq 6, 3) := by decide +kernel
theorem dX2_squares_22 : decode cX2_squares 22 = .ok (.iinc 1 1, 3) := by decide +kernel
theorem dX2_squares_25 : decode cX2_squares 25 = .ok (.iinc 2 1, 3) := by decide +kernel
theorem dX2_squares_28 : decode cX2_squares 28 = .ok (.goto (-24), 3) := by decide +kernel
theorem dX2_squares_31 : decode cX2_squares 31 = .ok (.iload_n 1, 1) := by decide +kernel
theorem dX2_squares_32 : decode cX2_squares 32 = .ok (.ireturn, 1) := by decide +kernel
theorem dX2_measureLengths_0 : decode cX2_measureLengths 0 = .ok (.aload_n 0, 1) := by decide +kernel
theorem dX2_measureLengths_1 : decode cX2_measureLengths 1 = .ok (.getfield 12, 3) := by decide +kernel
theorem dX2_measureLengths_4 : decode cX2_measureLengths 4 = .ok (.aload_n 0, 1) := by decide +kernel
theorem dX2_measureLengths_5 : decode cX2_measureLengths 5 = .ok (.getfield 40, 3) := by decide +kernel
theorem dX2_measureLengths_8 : decode cX2_measureLengths 8 = .ok (.iconst 0, 1) := by decide +kernel
theorem dX2_measureLengths_9 : decode cX2_measureLengths 9 = .ok (.invokestatic 43, 3) := by decide +kernel
theorem dX2_measureLengths_12 : decode cX2_measureLengths 12 = .ok (.invokevirtual 163, 3) := by decide +kernel
theorem dX2_measureLengths_15 : decode cX2_measureLengths 15 = .ok (.iconst 0, 1) := by decide +kernel
theorem dX2_measureLengths_16 : decode cX2_measureLengths 16 = .ok (.istore_n 1, 1) := by decide +kernel
theorem dX2_measureLengths_17 : decode cX2_measureLengths 17 = .ok (.iload_n 1, 1) := by decide +kernel
theorem dX2_measureLengths_18 : decode cX2_measureLengths 18 = .ok (.sipush 16807, 3) := by decide +kernel
theorem dX2_measureLengths_21 : decode cX2_measureLengths 21 = .ok (.if_icmp .ge 59, 3) := by decide +kernel
theorem dX2_measureLengths_24 : decode cX2_measureLengths 24 = .ok (.iload_n 1, 1) := by decide +kernel
theorem dX2_measureLengths_25 : decode cX2_measureLengths 25 = .ok (.aload_n 0, 1) := by decide +kernel
theorem dX2_measureLengths_26 : decode cX2_measureLengths 26 = .ok (.getfield 12, 3) := by decide +kernel
theorem dX2_measureLengths_29 : decode cX2_measureLengths 29 = .ok (.invokevirtual 167, 3) := by decide +kernel
theorem dX2_measureLengths_32 : decode cX2_measureLengths 32 = .ok (.if_icmp .ge 48, 3) := by decide +kernel
theorem dX2_measureLengths_35 : decode cX2_measureLengths 35 = .ok (.aload_n 0, 1) := by decide +kernel
theorem dX2_measureLengths_36 : decode cX2_measureLengths 36 = .ok (.getfield 12, 3) := by decide +kernel
theorem dX2_measureLengths_39 : decode cX2_measureLengths 39 = .ok (.iload_n 1, 1) := by decide +kernel
theorem dX2_measureLengths_40 : decode cX2_measureLengths 40 = .ok (.invokevirtual 170, 3) := by decide +kernel
theorem dX2_measureLengths_43 : decode cX2_measureLengths 43 = .ok (.istore_n 2, 1) := by decide +kernel
theorem dX2_measureLengths_44 : decode cX2_measureLengths 44 = .ok (.iconst 0, 1) := by decide +kernel
theorem dX2_measureLengths_45 : decode cX2_measureLengths 45 = .ok (.istore_n 3, 1) := by decide +kernel
theorem dX2_measureLengths_46 : decode cX2_measureLengths 46 = .ok (.iload_n 3, 1) := by decide +kernel
theorem dX2_measureLengths_47 : decode cX2_measureLengths 47 = .ok (.iconst 4, 1) := by decide +kernel
theorem dX2_measureLengths_48 : decode cX2_measureLengths 48 = .ok (.if_icmp .ge 26, 3) := by decide +kernel
theorem dX2_measureLengths_51 : decode cX2_measureLengths 51 = .ok (.aload_n 0, 1) := by decide +kernel
theorem dX2_measureLengths_52 : decode cX2_measureLengths 52 = .ok (.getfield 12, 3) := by decide +kernel
theorem dX2_measureLengths_55 : decode cX2_measureLengths 55 = .ok (.aload_n 0, 1) := by decide +kernel
theorem dX2_measureLengths_56 : decode cX2_measureLengths 56 = .ok (.getfield 28, 3) := by decide +kernel
theorem dX2_measureLengths_59 : decode cX2_measureLengths 59 = .ok (.iload_n 2, 1) := by decide +kernel
theorem dX2_measureLengths_60 : decode cX2_measureLengths 60 = .ok (.iload_n 3, 1) := by decide +kernel
theorem dX2_measureLengths_61 : decode cX2_measureLengths 61 = .ok (.invokevirtual 151, 3) := by decide +kernel
theorem dX2_measureLengths_64 : decode cX2_measureLengths 64 = .ok (.iload_n 2, 1) := by decide +kernel
theorem dX2_measureLengths_65 : decode cX2_measureLengths 65 = .ok (.invokevirtual 173, 3) := by decide +kernel
theorem dX2_measureLengths_68 : decode cX2_measureLengths 68 = .ok (.iinc 3 1, 3) := by decide +kernel
theorem dX2_measureLengths_71 : decode cX2_measureLengths 71 = .ok (.goto (-25), 3) := by decide +kernel
theorem dX2_measureLengths_74 : decode cX2_measureLengths 74 = .ok (.iinc 1 1, 3) := by decide +kernel
theorem dX2_measureLengths_77 : decode cX2_measureLengths 77 = .ok (.goto (-60), 3) := by decide +kernel
theorem dX2_measureLengths_80 : decode cX2_measureLengths 80 = .ok (.return_, 1) := by decide +kernel
theorem dX2_nearestPlaceOf_0 : decode cX2_nearestPlaceOf 0 = .ok (.aload_n 0, 1) := by decide +kernel
theorem dX2_nearestPlaceOf_1 : decode cX2_nearestPlaceOf 1 = .ok (.getfield 16, 3) := by decide +kernel
theorem dX2_nearestPlaceOf_4 : decode cX2_nearestPlaceOf 4 = .ok (.aload_n 0, 1) := by decide +kernel
theorem dX2_nearestPlaceOf_5 : decode cX2_nearestPlaceOf 5 = .ok (.getfield 46, 3) := by decide +kernel
theorem dX2_nearestPlaceOf_8 : decode cX2_nearestPlaceOf 8 = .ok (.invokevirtual 163, 3) := by decide +kernel
theorem dX2_nearestPlaceOf_11 : decode cX2_nearestPlaceOf 11 = .ok (.iconst 0, 1) := by decide +kernel
theorem dX2_nearestPlaceOf_12 : decode cX2_nearestPlaceOf 12 = .ok (.istore_n 2, 1) := by decide +kernel
theorem dX2_nearestPlaceOf_13 : decode cX2_nearestPlaceOf 13 = .ok (.iload_n 2, 1) := by decide +kernel
theorem dX2_nearestPlaceOf_14 : decode cX2_nearestPlaceOf 14 = .ok (.sipush 16807, 3) := by decide +kernel
theorem dX2_nearestPlaceOf_17 : decode cX2_nearestPlaceOf 17 = .ok (.if_icmp .ge 69, 3) := by decide +kernel
theorem dX2_nearestPlaceOf_20 : decode cX2_nearestPlaceOf 20 = .ok (.iload_n 2, 1) := by decide +kernel
theorem dX2_nearestPlaceOf_21 : decode cX2_nearestPlaceOf 21 = .ok (.aload_n 0, 1) := by decide +kernel
theorem dX2_nearestPlaceOf_22 : decode cX2_nearestPlaceOf 22 = .ok (.getfield 16, 3) := by decide +kernel
theorem dX2_nearestPlaceOf_25 : decode cX2_nearestPlaceOf 25 = .ok (.invokevirtual 167, 3) := by decide +kernel
theorem dX2_nearestPlaceOf_28 : decode cX2_nearestPlaceOf 28 = .ok (.if_icmp .ge 58, 3) := by decide +kernel
theorem dX2_nearestPlaceOf_31 : decode cX2_nearestPlaceOf 31 = .ok (.aload_n 0, 1) := by decide +kernel
theorem dX2_nearestPlaceOf_32 : decode cX2_nearestPlaceOf 32 = .ok (.getfield 16, 3) := by decide +kernel
theorem dX2_nearestPlaceOf_35 : decode cX2_nearestPlaceOf 35 = .ok (.iload_n 2, 1) := by decide +kernel
theorem dX2_nearestPlaceOf_36 : decode cX2_nearestPlaceOf 36 = .ok (.invokevirtual 170, 3) := by decide +kernel
theorem dX2_nearestPlaceOf_39 : decode cX2_nearestPlaceOf 39 = .ok (.istore_n 3, 1) := by decide +kernel
theorem dX2_nearestPlaceOf_40 : decode cX2_nearestPlaceOf 40 = .ok (.iload_n 3, 1) := by decide +kernel
theorem dX2_nearestPlaceOf_41 : decode cX2_nearestPlaceOf 41 = .ok (.invokestatic 114, 3) := by decide +kernel
theorem dX2_nearestPlaceOf_44 : decode cX2_nearestPlaceOf 44 = .ok (.iload_n 1, 1) := by decide +kernel
theorem dX2_nearestPlaceOf_45 : decode cX2_nearestPlaceOf 45 = .ok (.if_icmp .ne 5, 3) := by decide +kernel
theorem dX2_nearestPlaceOf_48 : decode cX2_nearestPlaceOf 48 = .ok (.iload_n 3, 1) := by decide +kernel
theorem dX2_nearestPlaceOf_49 : decode cX2_nearestPlaceOf 49 = .ok (.ireturn, 1) := by decide +kernel
theorem dX2_nearestPlaceOf_50 : decode cX2_nearestPlaceOf 50 = .ok (.iconst 0, 1) := by decide +kernel
theorem dX2_nearestPlaceOf_51 : decode cX2_nearestPlaceOf 51 = .ok (.istore 4, 2) := by decide +kernel
theorem dX2_nearestPlaceOf_53 : decode cX2_nearestPlaceOf 53 = .ok (.iload 4, 2) := by decide +kernel
theorem dX2_nearestPlaceOf_55 : decode cX2_nearestPlaceOf 55 = .ok (.iconst 4, 1) := by decide +kernel
theorem dX2_nearestPlaceOf_56 : decode cX2_nearestPlaceOf 56 = .ok (.if_icmp .ge 24, 3) := by decide +kernel
theorem dX2_nearestPlaceOf_59 : decode cX2_nearestPlaceOf 59 = .ok (.aload_n 0, 1) := by decide +kernel
theorem dX2_nearestPlaceOf_60 : decode cX2_nearestPlaceOf 60 = .ok (.getfield 16, 3) := by decide +kernel
theorem dX2_nearestPlaceOf_63 : decode cX2_nearestPlaceOf 63 = .ok (.aload_n 0, 1) := by decide +kernel
theorem dX2_nearestPlaceOf_64 : decode cX2_nearestPlaceOf 64 = .ok (.iload_n 3, 1) := by decide +kernel
theorem dX2_nearestPlaceOf_65 : decode cX2_nearestPlaceOf 65 = .ok (.iload 4, 2) := by decide +kernel
theorem dX2_nearestPlaceOf_67 : decode cX2_nearestPlaceOf 67 = .ok (.invokevirtual 84, 3) := by decide +kernel
theorem dX2_nearestPlaceOf_70 : decode cX2_nearestPlaceOf 70 = .ok (.iload_n 3, 1) := by decide +kernel
theorem dX2_nearestPlaceOf_71 : decode cX2_nearestPlaceOf 71 = .ok (.invokevirtual 173, 3) := by decide +kernel
theorem dX2_nearestPlaceOf_74 : decode cX2_nearestPlaceOf 74 = .ok (.iinc 4 1, 3) := by decide +kernel
theorem dX2_nearestPlaceOf_77 : decode cX2_nearestPlaceOf 77 = .ok (.goto (-24), 3) := by decide +kernel
theorem dX2_nearestPlaceOf_80 : decode cX2_nearestPlaceOf 80 = .ok (.iinc 2 1, 3) := by decide +kernel
theorem dX2_nearestPlaceOf_83 : decode cX2_nearestPlaceOf 83 = .ok (.goto (-70), 3) := by decide +kernel
theorem dX2_nearestPlaceOf_86 : decode cX2_nearestPlaceOf 86 = .ok (.iconst (-1), 1) := by decide +kernel
theorem dX2_nearestPlaceOf_87 : decode cX2_nearestPlaceOf 87 = .ok (.ireturn, 1) := by decide +kernel
theorem dX2_afterStep_0 : decode cX2_afterStep 0 = .ok (.aload_n 0, 1) := by decide +kernel
theorem dX2_afterStep_1 : decode cX2_afterStep 1 = .ok (.getfield 28, 3) := by decide +kernel
theorem dX2_afterStep_4 : decode cX2_afterStep 4 = .ok (.iload_n 1, 1) := by decide +kernel
theorem dX2_afterStep_5 : decode cX2_afterStep 5 = .ok (.iload_n 2, 1) := by decide +kernel
theorem dX2_afterStep_6 : decode cX2_afterStep 6 = .ok (.invokevirtual 151, 3) := by decide +kernel
theorem dX2_afterStep_9 : decode cX2_afterStep 9 = .ok (.istore_n 3, 1) := by decide +kernel
theorem dX2_afterStep_10 : decode cX2_afterStep 10 = .ok (.aload_n 0, 1) := by decide +kernel
theorem dX2_afterStep_11 : decode cX2_afterStep 11 = .ok (.aload_n 0, 1) := by decide +kernel
theorem dX2_afterStep_12 : decode cX2_afterStep 12 = .ok (.getfield 12, 3) := by decide +kernel
theorem dX2_afterStep_15 : decode cX2_afterStep 15 = .ok (.iload_n 3, 1) := by decide +kernel
theorem dX2_afterStep_16 : decode cX2_afterStep 16 = .ok (.invokevirtual 101, 3) := by decide +kernel
theorem dX2_afterStep_19 : decode cX2_afterStep 19 = .ok (.invokevirtual 160, 3) := by decide +kernel
theorem dX2_afterStep_22 : decode cX2_afterStep 22 = .ok (.ifCond .eq 7, 3) := by decide +kernel
theorem dX2_afterStep_25 : decode cX2_afterStep 25 = .ok (.iload_n 3, 1) := by decide +kernel
theorem dX2_afterStep_26 : decode cX2_afterStep 26 = .ok (.goto 4, 3) := by decide +kernel
theorem dX2_afterStep_29 : decode cX2_afterStep 29 = .ok (.iconst (-1), 1) := by decide +kernel
theorem dX2_afterStep_30 : decode cX2_afterStep 30 = .ok (.ireturn, 1) := by decide +kernel
theorem dX2_isWithinLimit_0 : decode cX2_isWithinLimit 0 = .ok (.iload_n 1, 1) := by decide +kernel
theorem dX2_isWithinLimit_1 : decode cX2_isWithinLimit 1 = .ok (.iconst (-1), 1) := by decide +kernel
theorem dX2_isWithinLimit_2 : decode cX2_isWithinLimit 2 = .ok (.if_icmp .eq 15, 3) := by decide +kernel
theorem dX2_isWithinLimit_5 : decode cX2_isWithinLimit 5 = .ok (.iload_n 1, 1) := by decide +kernel
theorem dX2_isWithinLimit_6 : decode cX2_isWithinLimit 6 = .ok (.aload_n 0, 1) := by decide +kernel
theorem dX2_isWithinLimit_7 : decode cX2_isWithinLimit 7 = .ok (.getfield 32, 3) := by decide +kernel
theorem dX2_isWithinLimit_10 : decode cX2_isWithinLimit 10 = .ok (.if_icmp .gt 7, 3) := by decide +kernel
theorem dX2_isWithinLimit_13 : decode cX2_isWithinLimit 13 = .ok (.iconst 1, 1) := by decide +kernel
theorem dX2_isWithinLimit_14 : decode cX2_isWithinLimit 14 = .ok (.goto 4, 3) := by decide +kernel
theorem dX2_isWithinLimit_17 : decode cX2_isWithinLimit 17 = .ok (.iconst 0, 1) := by decide +kernel
theorem dX2_isWithinLimit_18 : decode cX2_isWithinLimit 18 = .ok (.ireturn, 1) := by decide +kernel
theorem dX2_leastLengthOf_0 : decode cX2_leastLengthOf 0 = .ok (.iconst (-1), 1) := by decide +kernel
theorem dX2_leastLengthOf_1 : decode cX2_leastLengthOf 1 = .ok (.istore_n 2, 1) := by decide +kernel
theorem dX2_leastLengthOf_2 : decode cX2_leastLengthOf 2 = .ok (.iconst 0, 1) := by decide +kernel
theorem dX2_leastLengthOf_3 : decode cX2_leastLengthOf 3 = .ok (.istore_n 3, 1) := by decide +kernel
theorem dX2_leastLengthOf_4 : decode cX2_leastLengthOf 4 = .ok (.iload_n 3, 1) := by decide +kernel
theorem dX2_leastLengthOf_5 : decode cX2_leastLengthOf 5 = .ok (.sipush 343, 3) := by decide +kernel
theorem dX2_leastLengthOf_8 : decode cX2_leastLengthOf 8 = .ok (.if_icmp .ge 43, 3) := by decide +kernel
theorem dX2_leastLengthOf_11 : decode cX2_leastLengthOf 11 = .ok (.aload_n 0, 1) := by decide +kernel
theorem dX2_leastLengthOf_12 : decode cX2_leastLengthOf 12 = .ok (.getfield 12, 3) := by decide +kernel
theorem dX2_leastLengthOf_15 : decode cX2_leastLengthOf 15 = .ok (.iload_n 1, 1) := by decide +kernel
theorem dX2_leastLengthOf_16 : decode cX2_leastLengthOf 16 = .ok (.iload_n 3, 1) := by decide +kernel
theorem dX2_leastLengthOf_17 : decode cX2_leastLengthOf 17 = .ok (.invokestatic 43, 3) := by decide +kernel
theorem dX2_leastLengthOf_20 : decode cX2_leastLengthOf 20 = .ok (.invokevirtual 101, 3) := by decide +kernel
theorem dX2_leastLengthOf_23 : decode cX2_leastLengthOf 23 = .ok (.istore 4, 2) := by decide +kernel
theorem dX2_leastLengthOf_25 : decode cX2_leastLengthOf 25 = .ok (.iload 4, 2) := by decide +kernel
theorem dX2_leastLengthOf_27 : decode cX2_leastLengthOf 27 = .ok (.iconst (-1), 1) := by decide +kernel
theorem dX2_leastLengthOf_28 : decode cX2_leastLengthOf 28 = .ok (.if_icmp .eq 17, 3) := by decide +kernel
theorem dX2_leastLengthOf_31 : decode cX2_leastLengthOf 31 = .ok (.iload_n 2, 1) := by decide +kernel
theorem dX2_leastLengthOf_32 : decode cX2_leastLengthOf 32 = .ok (.iconst (-1), 1) := by decide +kernel
theorem dX2_leastLengthOf_33 : decode cX2_leastLengthOf 33 = .ok (.if_icmp .eq 9, 3) := by decide +kernel
theorem dX2_leastLengthOf_36 : decode cX2_leastLengthOf 36 = .ok (.iload 4, 2) := by decide +kernel
theorem dX2_leastLengthOf_38 : decode cX2_leastLengthOf 38 = .ok (.iload_n 2, 1) := by decide +kernel
theorem dX2_leastLengthOf_39 : decode cX2_leastLengthOf 39 = .ok (.if_icmp .ge 6, 3) := by decide +kernel
theorem dX2_leastLengthOf_42 : decode cX2_leastLengthOf 42 = .ok (.iload 4, 2) := by decide +kernel
theorem dX2_leastLengthOf_44 : decode cX2_leastLengthOf 44 = .ok (.istore_n 2, 1) := by decide +kernel
theorem dX2_leastLengthOf_45 : decode cX2_leastLengthOf 45 = .ok (.iinc 3 1, 3) := by decide +kernel
theorem dX2_leastLengthOf_48 : decode cX2_leastLengthOf 48 = .ok (.goto (-44), 3) := by decide +kernel
theorem dX2_leastLengthOf_51 : decode cX2_leastLengthOf 51 = .ok (.iload_n 2, 1) := by decide +kernel
theorem dX2_leastLengthOf_52 : decode cX2_leastLengthOf 52 = .ok (.ireturn, 1) := by decide +kernel
theorem dX2_alongCable_0 : decode cX2_alongCable 0 = .ok (.aload_n 0, 1) := by decide +kernel
theorem dX2_alongCable_1 : decode cX2_alongCable 1 = .ok (.getfield 46, 3) := by decide +kernel
theorem dX2_alongCable_4 : decode cX2_alongCable 4 = .ok (.istore_n 2, 1) := by decide +kernel
theorem dX2_alongCable_5 : decode cX2_alongCable 5 = .ok (.iconst 0, 1) := by decide +kernel
theorem dX2_alongCable_6 : decode cX2_alongCable 6 = .ok (.istore_n 3, 1) := by decide +kernel
theorem dX2_alongCable_7 : decode cX2_alongCable 7 = .ok (.iload_n 3, 1) := by decide +kernel
theorem dX2_alongCable_8 : decode cX2_alongCable 8 = .ok (.iload_n 1, 1) := by decide +kernel
theorem dX2_alongCable_9 : decode cX2_alongCable 9 = .ok (.if_icmp .ge 23, 3) := by decide +kernel
theorem dX2_alongCable_12 : decode cX2_alongCable 12 = .ok (.aload_n 0, 1) := by decide +kernel
theorem dX2_alongCable_13 : decode cX2_alongCable 13 = .ok (.getfield 28, 3) := by decide +kernel
theorem dX2_alongCable_16 : decode cX2_alongCable 16 = .ok (.iload_n 2, 1) := by decide +kernel
theorem dX2_alongCable_17 : decode cX2_alongCable 17 = .ok (.aload_n 0, 1) := by decide +kernel
theorem dX2_alongCable_18 : decode cX2_alongCable 18 = .ok (.iload_n 2, 1) := by decide +kernel
theorem dX2_alongCable_19 : decode cX2_alongCable 19 = .ok (.invokevirtual 148, 3) := by decide +kernel
theorem dX2_alongCable_22 : decode cX2_alongCable 22 = .ok (.invokevirtual 151, 3) := by decide +kernel
theorem dX2_alongCable_25 : decode cX2_alongCable 25 = .ok (.istore_n 2, 1) := by decide +kernel
theorem dX2_alongCable_26 : decode cX2_alongCable 26 = .ok (.iinc 3 1, 3) := by decide +kernel
theorem dX2_alongCable_29 : decode cX2_alongCable 29 = .ok (.goto (-22), 3) := by decide +kernel
theorem dX2_alongCable_32 : decode cX2_alongCable 32 = .ok (.iload_n 2, 1) := by decide +kernel
theorem dX2_alongCable_33 : decode cX2_alongCable 33 = .ok (.ireturn, 1) := by decide +kernel
theorem dX2_cableDirection_0 : decode cX2_cableDirection 0 = .ok (.aload_n 0, 1) := by decide +kernel
theorem dX2_cableDirection_1 : decode cX2_cableDirection 1 = .ok (.getfield 12, 3) := by decide +kernel
theorem dX2_cableDirection_4 : decode cX2_cableDirection 4 = .ok (.iload_n 1, 1) := by decide +kernel
theorem dX2_cableDirection_5 : decode cX2_cableDirection 5 = .ok (.invokevirtual 101, 3) := by decide +kernel
theorem dX2_cableDirection_8 : decode cX2_cableDirection 8 = .ok (.istore_n 2, 1) := by decide +kernel
theorem dX2_cableDirection_9 : decode cX2_cableDirection 9 = .ok (.iload_n 2, 1) := by decide +kernel
theorem dX2_cableDirection_10 : decode cX2_cableDirection 10 = .ok (.iconst 1, 1) := by decide +kernel
theorem dX2_cableDirection_11 : decode cX2_cableDirection 11 = .ok (.if_icmp .ge 5, 3) := by decide +kernel
theorem dX2_cableDirection_14 : decode cX2_cableDirection 14 = .ok (.iconst (-1), 1) := by decide +kernel
theorem dX2_cableDirection_15 : decode cX2_cableDirection 15 = .ok (.ireturn, 1) := by decide +kernel
theorem dX2_cableDirection_16 : decode cX2_cableDirection 16 = .ok (.iconst 0, 1) := by decide +kernel
theorem dX2_cableDirection_17 : decode cX2_cableDirection 17 = .ok (.istore_n 3, 1) := by decide +kernel
theorem dX2_cableDirection_18 : decode cX2_cableDirection 18 = .ok (.iload_n 3, 1) := by decide +kernel
theorem dX2_cableDirection_19 : decode cX2_cableDirection 19 = .ok (.iconst 4, 1) := by decide +kernel
theorem dX2_cableDirection_20 : decode cX2_cableDirection 20 = .ok (.if_icmp .ge 33, 3) := by decide +kernel
theorem dX2_cableDirection_23 : decode cX2_cableDirection 23 = .ok (.aload_n 0, 1) := by decide +kernel
theorem dX2_cableDirection_24 : decode cX2_cableDirection 24 = .ok (.getfield 12, 3) := by decide +kernel
theorem dX2_cableDirection_27 : decode cX2_cableDirection 27 = .ok (.aload_n 0, 1) := by decide +kernel
theorem dX2_cableDirection_28 : decode cX2_cableDirection 28 = .ok (.getfield 28, 3) := by decide +kernel
theorem dX2_cableDirection_31 : decode cX2_cableDirection 31 = .ok (.iload_n 1, 1) := by decide +kernel
theorem dX2_cableDirection_32 : decode cX2_cableDirection 32 = .ok (.iload_n 3, 1) := by decide +kernel
theorem dX2_cableDirection_33 : decode cX2_cableDirection 33 = .ok (.invokevirtual 151, 3) := by decide +kernel
theorem dX2_cableDirection_36 : decode cX2_cableDirection 36 = .ok (.invokevirtual 101, 3) := by decide +kernel
theorem dX2_cableDirection_39 : decode cX2_cableDirection 39 = .ok (.iload_n 2, 1) := by decide +kernel
theorem dX2_cableDirection_40 : decode cX2_cableDirection 40 = .ok (.iconst 1, 1) := by decide +kernel
theorem dX2_cableDirection_41 : decode cX2_cableDirection 41 = .ok (.isub, 1) := by decide +kernel
theorem dX2_cableDirection_42 : decode cX2_cableDirection 42 = .ok (.if_icmp .ne 5, 3) := by decide +kernel
theorem dX2_cableDirection_45 : decode cX2_cableDirection 45 = .ok (.iload_n 3, 1) := by decide +kernel
theorem dX2_cableDirection_46 : decode cX2_cableDirection 46 = .ok (.ireturn, 1) := by decide +kernel
theorem dX2_cableDirection_47 : decode cX2_cableDirection 47 = .ok (.iinc 3 1, 3) := by decide +kernel
theorem dX2_cableDirection_50 : decode cX2_cableDirection 50 = .ok (.goto (-32), 3) := by decide +kernel
theorem dX2_cableDirection_53 : decode cX2_cableDirection 53 = .ok (.iconst (-1), 1) := by decide +kernel
theorem dX2_cableDirection_54 : decode cX2_cableDirection 54 = .ok (.ireturn, 1) := by decide +kernel
theorem dX2_fewestByTrying_0 : decode cX2_fewestByTrying 0 = .ok (.iload_n 1, 1) := by decide +kernel
theorem dX2_fewestByTrying_1 : decode cX2_fewestByTrying 1 = .ok (.iconst (-1), 1) := by decide +kernel
theorem dX2_fewestByTrying_2 : decode cX2_fewestByTrying 2 = .ok (.if_icmp .eq 21, 3) := by decide +kernel
theorem dX2_fewestByTrying_5 : decode cX2_fewestByTrying 5 = .ok (.iload_n 3, 1) := by decide +kernel
theorem dX2_fewestByTrying_6 : decode cX2_fewestByTrying 6 = .ok (.iload_n 1, 1) := by decide +kernel
theorem dX2_fewestByTrying_7 : decode cX2_fewestByTrying 7 = .ok (.invokestatic 114, 3) := by decide +kernel
theorem dX2_fewestByTrying_10 : decode cX2_fewestByTrying 10 = .ok (.iload_n 2, 1) := by decide +kernel
theorem dX2_fewestByTrying_11 : decode cX2_fewestByTrying 11 = .ok (.invokestatic 114, 3) := by decide +kernel
theorem dX2_fewestByTrying_14 : decode cX2_fewestByTrying 14 = .ok (.invokestatic 176, 3) := by decide +kernel
theorem dX2_fewestByTrying_17 : decode cX2_fewestByTrying 17 = .ok (.iadd, 1) := by decide +kernel
theorem dX2_fewestByTrying_18 : decode cX2_fewestByTrying 18 = .ok (.iload 4, 2) := by decide +kernel
theorem dX2_fewestByTrying_20 : decode cX2_fewestByTrying 20 = .ok (.if_icmp .le 8, 3) := by decide +kernel
theorem dX2_fewestByTrying_23 : decode cX2_fewestByTrying 23 = .ok (.iload 4, 2) := by decide +kernel
theorem dX2_fewestByTrying_25 : decode cX2_fewestByTrying 25 = .ok (.iconst 1, 1) := by decide +kernel
theorem dX2_fewestByTrying_26 : decode cX2_fewestByTrying 26 = .ok (.iadd, 1) := by decide +kernel
theorem dX2_fewestByTrying_27 : decode cX2_fewestByTrying 27 = .ok (.ireturn, 1) := by decide +kernel
theorem dX2_fewestByTrying_28 : decode cX2_fewestByTrying 28 = .ok (.iload_n 1, 1) := by decide +kernel
theorem dX2_fewestByTrying_29 : decode cX2_fewestByTrying 29 = .ok (.iload_n 2, 1) := by decide +kernel
theorem dX2_fewestByTrying_30 : decode cX2_fewestByTrying 30 = .ok (.if_icmp .ne 5, 3) := by decide +kernel
theorem dX2_fewestByTrying_33 : decode cX2_fewestByTrying 33 = .ok (.iload_n 3, 1) := by decide +kernel
theorem dX2_fewestByTrying_34 : decode cX2_fewestByTrying 34 = .ok (.ireturn, 1) := by decide +kernel
theorem dX2_fewestByTrying_35 : decode cX2_fewestByTrying 35 = .ok (.iload 4, 2) := by decide +kernel
theorem dX2_fewestByTrying_37 : decode cX2_fewestByTrying 37 = .ok (.iconst 1, 1) := by decide +kernel
theorem dX2_fewestByTrying_38 : decode cX2_fewestByTrying 38 = .ok (.iadd, 1) := by decide +kernel
theorem dX2_fewestByTrying_39 : decode cX2_fewestByTrying 39 = .ok (.istore 5, 2) := by decide +kernel
theorem dX2_fewestByTrying_41 : decode cX2_fewestByTrying 41 = .ok (.iconst 0, 1) := by decide +kernel
theorem dX2_fewestByTrying_42 : decode cX2_fewestByTrying 42 = .ok (.istore 6, 2) := by decide +kernel
theorem dX2_fewestByTrying_44 : decode cX2_fewestByTrying 44 = .ok (.iload 6, 2) := by decide +kernel
theorem dX2_fewestByTrying_46 : decode cX2_fewestByTrying 46 = .ok (.iconst 4, 1) := by decide +kernel
theorem dX2_fewestByTrying_47 : decode cX2_fewestByTrying 47 = .ok (.if_icmp .ge 30, 3) := by decide +kernel
theorem dX2_fewestByTrying_50 : decode cX2_fewestByTrying 50 = .ok (.aload_n 0, 1) := by decide +kernel
theorem dX2_fewestByTrying_51 : decode cX2_fewestByTrying 51 = .ok (.aload_n 0, 1) := by decide +kernel
theorem dX2_fewestByTrying_52 : decode cX2_fewestByTrying 52 = .ok (.iload_n 1, 1) := by decide +kernel
theorem dX2_fewestByTrying_53 : decode cX2_fewestByTrying 53 = .ok (.iload 6, 2) := by decide +kernel
theorem dX2_fewestByTrying_55 : decode cX2_fewestByTrying 55 = .ok (.invokevirtual 151, 3) := by decide +kernel
theorem dX2_fewestByTrying_58 : decode cX2_fewestByTrying 58 = .ok (.iload_n 2, 1) := by decide +kernel
theorem dX2_fewestByTrying_59 : decode cX2_fewestByTrying 59 = .ok (.iload_n 3, 1) := by decide +kernel
theorem dX2_fewestByTrying_60 : decode cX2_fewestByTrying 60 = .ok (.iconst 1, 1) := by decide +kernel
theorem dX2_fewestByTrying_61 : decode cX2_fewestByTrying 61 = .ok (.iadd, 1) := by decide +kernel
theorem dX2_fewestByTrying_62 : decode cX2_fewestByTrying 62 = .ok (.iload 5, 2) := by decide +kernel
theorem dX2_fewestByTrying_64 : decode cX2_fewestByTrying 64 = .ok (.iconst 1, 1) := by decide +kernel
theorem dX2_fewestByTrying_65 : decode cX2_fewestByTrying 65 = .ok (.isub, 1) := by decide +kernel
theorem dX2_fewestByTrying_66 : decode cX2_fewestByTrying 66 = .ok (.invokestatic 142, 3) := by decide +kernel
theorem dX2_fewestByTrying_69 : decode cX2_fewestByTrying 69 = .ok (.istore 5, 2) := by decide +kernel
theorem dX2_fewestByTrying_71 : decode cX2_fewestByTrying 71 = .ok (.iinc 6 1, 3) := by decide +kernel
theorem dX2_fewestByTrying_74 : decode cX2_fewestByTrying 74 = .ok (.goto (-30), 3) := by decide +kernel
theorem dX2_fewestByTrying_77 : decode cX2_fewestByTrying 77 = .ok (.iload 5, 2) := by decide +kernel
theorem dX2_fewestByTrying_79 : decode cX2_fewestByTrying 79 = .ok (.ireturn, 1) := by decide +kernel
theorem dX2_requireSquare_0 : decode cX2_requireSquare 0 = .ok (.aload_n 0, 1) := by decide +kernel
theorem dX2_requireSquare_1 : decode cX2_requireSquare 1 = .ok (.getfield 28, 3) := by decide +kernel
theorem dX2_requireSquare_4 : decode cX2_requireSquare 4 = .ok (.iload_n 1, 1) := by decide +kernel
theorem dX2_requireSquare_5 : decode cX2_requireSquare 5 = .ok (.iload_n 2, 1) := by decide +kernel
theorem dX2_requireSquare_6 : decode cX2_requireSquare 6 = .ok (.invokevirtual 179, 3) := by decide +kernel
theorem dX2_requireSquare_9 : decode cX2_requireSquare 9 = .ok (.ifCond .ne 13, 3) := by decide +kernel
theorem dX2_requireSquare_12 : decode cX2_requireSquare 12 = .ok (.new 132, 3) := by decide +kernel
theorem dX2_requireSquare_15 : decode cX2_requireSquare 15 = .ok (.dup, 1) := by decide +kernel
theorem dX2_requireSquare_16 : decode cX2_requireSquare 16 = .ok (.ldc 183, 2) := by decide +kernel
theorem dX2_requireSquare_18 : decode cX2_requireSquare 18 = .ok (.invokespecial 136, 3) := by decide +kernel
theorem dX2_requireSquare_21 : decode cX2_requireSquare 21 = .ok (.athrow, 1) := by decide +kernel
theorem dX2_requireSquare_22 : decode cX2_requireSquare 22 = .ok (.return_, 1) := by decide +kernel
theorem dX2_between_0 : decode cX2_between 0 = .ok (.iload_n 0, 1) := by decide +kernel
theorem dX2_between_1 : decode cX2_between 1 = .ok (.iload_n 1, 1) := by decide +kernel
theorem dX2_between_2 : decode cX2_between 2 = .ok (.iload_n 2, 1) := by decide +kernel
theorem dX2_between_3 : decode cX2_between 3 = .ok (.invokestatic 106, 3) := by decide +kernel
theorem dX2_between_6 : decode cX2_between 6 = .ok (.invokestatic 157, 3) := by decide +kernel
theorem dX2_between_9 : decode cX2_between 9 = .ok (.ireturn, 1) := by decide +kernel
theorem dX2_squareAt_0 : decode cX2_squareAt 0 = .ok (.iload_n 0, 1) := by decide +kernel
theorem dX2_squareAt_1 : decode cX2_squareAt 1 = .ok (.bipush 7, 2) := by decide +kernel
theorem dX2_squareAt_3 : decode cX2_squareAt 3 = .ok (.imul, 1) := by decide +kernel
theorem dX2_squareAt_4 : decode cX2_squareAt 4 = .ok (.iload_n 1, 1) := by decide +kernel
theorem dX2_squareAt_5 : decode cX2_squareAt 5 = .ok (.iadd, 1) := by decide +kernel
theorem dX2_squareAt_6 : decode cX2_squareAt 6 = .ok (.ireturn, 1) := by decide +kernel
theorem dX2_columnOf_0 : decode cX2_columnOf 0 = .ok (.iload_n 0, 1) := by decide +kernel
theorem dX2_columnOf_1 : decode cX2_columnOf 1 = .ok (.bipush 7, 2) := by decide +kernel
theorem dX2_columnOf_3 : decode cX2_columnOf 3 = .ok (.idiv, 1) := by decide +kernel
theorem dX2_columnOf_4 : decode cX2_columnOf 4 = .ok (.ireturn, 1) := by decide +kernel
theorem dX2_rowOf_0 : decode cX2_rowOf 0 = .ok (.iload_n 0, 1) := by decide +kernel
theorem dX2_rowOf_1 : decode cX2_rowOf 1 = .ok (.bipush 7, 2) := by decide +kernel
theorem dX2_rowOf_3 : decode cX2_rowOf 3 = .ok (.irem, 1) := by decide +kernel
theorem dX2_rowOf_4 : decode cX2_rowOf 4 = .ok (.ireturn, 1) := by decide +kernel
theorem dX2_apart_0 : decode cX2_apart 0 = .ok (.iload_n 0, 1) := by decide +kernel
theorem dX2_apart_1 : decode cX2_apart 1 = .ok (.invokestatic 117, 3) := by decide +kernel
theorem dX2_apart_4 : decode cX2_apart 4 = .ok (.iload_n 1, 1) := by decide +kernel
theorem dX2_apart_5 : decode cX2_apart 5 = .ok (.invokestatic 117, 3) := by decide +kernel
theorem dX2_apart_8 : decode cX2_apart 8 = .ok (.isub, 1) := by decide +kernel
theorem dX2_apart_9 : decode cX2_apart 9 = .ok (.invokestatic 185, 3) := by decide +kernel
theorem dX2_apart_12 : decode cX2_apart 12 = .ok (.iload_n 0, 1) := by decide +kernel
theorem dX2_apart_13 : decode cX2_apart 13 = .ok (.invokestatic 120, 3) := by decide +kernel
theorem dX2_apart_16 : decode cX2_apart 16 = .ok (.iload_n 1, 1) := by decide +kernel
theorem dX2_apart_17 : decode cX2_apart 17 = .ok (.invokestatic 120, 3) := by decide +kernel
theorem dX2_apart_20 : decode cX2_apart 20 = .ok (.isub, 1) := by decide +kernel
theorem dX2_apart_21 : decode cX2_apart 21 = .ok (.invokestatic 185, 3) := by decide +kernel
theorem dX2_apart_24 : decode cX2_apart 24 = .ok (.iadd, 1) := by decide +kernel
theorem dX2_apart_25 : decode cX2_apart 25 = .ok (.ireturn, 1) := by decide +kernel
theorem dX2_placeOf_0 : decode cX2_placeOf 0 = .ok (.iload_n 0, 1) := by decide +kernel
theorem dX2_placeOf_1 : decode cX2_placeOf 1 = .ok (.sipush 343, 3) := by decide +kernel
theorem dX2_placeOf_4 : decode cX2_placeOf 4 = .ok (.imul, 1) := by decide +kernel
theorem dX2_placeOf_5 : decode cX2_placeOf 5 = .ok (.iload_n 1, 1) := by decide +kernel
theorem dX2_placeOf_6 : decode cX2_placeOf 6 = .ok (.iadd, 1) := by decide +kernel
theorem dX2_placeOf_7 : decode cX2_placeOf 7 = .ok (.ireturn, 1) := by decide +kernel
theorem dX2_squareOf_0 : decode cX2_squareOf 0 = .ok (.iload_n 0, 1) := by decide +kernel
theorem dX2_squareOf_1 : decode cX2_squareOf 1 = .ok (.sipush 343, 3) := by decide +kernel
theorem dX2_squareOf_4 : decode cX2_squareOf 4 = .ok (.idiv, 1) := by decide +kernel
theorem dX2_squareOf_5 : decode cX2_squareOf 5 = .ok (.ireturn, 1) := by decide +kernel
theorem dX2_wordOf_0 : decode cX2_wordOf 0 = .ok (.iload_n 0, 1) := by decide +kernel
theorem dX2_wordOf_1 : decode cX2_wordOf 1 = .ok (.sipush 343, 3) := by decide +kernel
theorem dX2_wordOf_4 : decode cX2_wordOf 4 = .ok (.irem, 1) := by decide +kernel
theorem dX2_wordOf_5 : decode cX2_wordOf 5 = .ok (.ireturn, 1) := by decide +kernel
theorem dX2_lettersOf_0 : decode cX2_lettersOf 0 = .ok (.iconst 0, 1) := by decide +kernel
theorem dX2_lettersOf_1 : decode cX2_lettersOf 1 = .ok (.istore_n 1, 1) := by decide +kernel
theorem dX2_lettersOf_2 : decode cX2_lettersOf 2 = .ok (.iload_n 0, 1) := by decide +kernel
theorem dX2_lettersOf_3 : decode cX2_lettersOf 3 = .ok (.istore_n 2, 1) := by decide +kernel
theorem dX2_lettersOf_4 : decode cX2_lettersOf 4 = .ok (.iload_n 2, 1) := by decide +kernel
theorem dX2_lettersOf_5 : decode cX2_lettersOf 5 = .ok (.ifCond .le 19, 3) := by decide +kernel
theorem dX2_lettersOf_8 : decode cX2_lettersOf 8 = .ok (.iload_n 1, 1) := by decide +kernel
theorem dX2_lettersOf_9 : decode cX2_lettersOf 9 = .ok (.iconst 3, 1) := by decide +kernel
theorem dX2_lettersOf_10 : decode cX2_lettersOf 10 = .ok (.if_icmp .ge 14, 3) := by decide +kernel
theorem dX2_lettersOf_13 : decode cX2_lettersOf 13 = .ok (.iload_n 2, 1) := by decide +kernel
theorem dX2_lettersOf_14 : decode cX2_lettersOf 14 = .ok (.bipush 7, 2) := by decide +kernel
theorem dX2_lettersOf_16 : decode cX2_lettersOf 16 = .ok (.idiv, 1) := by decide +kernel
theorem dX2_lettersOf_17 : decode cX2_lettersOf 17 = .ok (.istore_n 2, 1) := by decide +kernel
theorem dX2_lettersOf_18 : decode cX2_lettersOf 18 = .ok (.iinc 1 1, 3) := by decide +kernel
theorem dX2_lettersOf_21 : decode cX2_lettersOf 21 = .ok (.goto (-17), 3) := by decide +kernel
theorem dX2_lettersOf_24 : decode cX2_lettersOf 24 = .ok (.iload_n 1, 1) := by decide +kernel
theorem dX2_lettersOf_25 : decode cX2_lettersOf 25 = .ok (.ireturn, 1) := by decide +kernel
theorem dX2_lastLetterOf_0 : decode cX2_lastLetterOf 0 = .ok (.iload_n 0, 1) := by decide +kernel
theorem dX2_lastLetterOf_1 : decode cX2_lastLetterOf 1 = .ok (.bipush 7, 2) := by decide +kernel
theorem dX2_lastLetterOf_3 : decode cX2_lastLetterOf 3 = .ok (.irem, 1) := by decide +kernel
theorem dX2_lastLetterOf_4 : decode cX2_lastLetterOf 4 = .ok (.iconst 1, 1) := by decide +kernel
theorem dX2_lastLetterOf_5 : decode cX2_lastLetterOf 5 = .ok (.isub, 1) := by decide +kernel
theorem dX2_lastLetterOf_6 : decode cX2_lastLetterOf 6 = .ok (.ireturn, 1) := by decide +kernel
theorem dX2_oppositeOf_0 : decode cX2_oppositeOf 0 = .ok (.iload_n 0, 1) := by decide +kernel
theorem dX2_oppositeOf_1 : decode cX2_oppositeOf 1 = .ok (.iconst 1, 1) := by decide +kernel
theorem dX2_oppositeOf_2 : decode cX2_oppositeOf 2 = .ok (.ixor, 1) := by decide +kernel
theorem dX2_oppositeOf_3 : decode cX2_oppositeOf 3 = .ok (.ireturn, 1) := by decide +kernel
theorem dX2_withLetter_0 : decode cX2_withLetter 0 = .ok (.iload_n 0, 1) := by decide +kernel
theorem dX2_withLetter_1 : decode cX2_withLetter 1 = .ok (.invokestatic 137, 3) := by decide +kernel
theorem dX2_withLetter_4 : decode cX2_withLetter 4 = .ok (.iload_n 1, 1) := by decide +kernel
theorem dX2_withLetter_5 : decode cX2_withLetter 5 = .ok (.invokestatic 188, 3) := by decide +kernel
theorem dX2_withLetter_8 : decode cX2_withLetter 8 = .ok (.if_icmp .ne 8, 3) := by decide +kernel
theorem dX2_withLetter_11 : decode cX2_withLetter 11 = .ok (.iload_n 0, 1) := by decide +kernel
theorem dX2_withLetter_12 : decode cX2_withLetter 12 = .ok (.bipush 7, 2) := by decide +kernel
theorem dX2_withLetter_14 : decode cX2_withLetter 14 = .ok (.idiv, 1) := by decide +kernel
theorem dX2_withLetter_15 : decode cX2_withLetter 15 = .ok (.ireturn, 1) := by decide +kernel
theorem dX2_withLetter_16 : decode cX2_withLetter 16 = .ok (.iload_n 0, 1) := by decide +kernel
theorem dX2_withLetter_17 : decode cX2_withLetter 17 = .ok (.bipush 7, 2) := by decide +kernel
theorem dX2_withLetter_19 : decode cX2_withLetter 19 = .ok (.imul, 1) := by decide +kernel
theorem dX2_withLetter_20 : decode cX2_withLetter 20 = .ok (.iload_n 1, 1) := by decide +kernel
theorem dX2_withLetter_21 : decode cX2_withLetter 21 = .ok (.iadd, 1) := by decide +kernel
theorem dX2_withLetter_22 : decode cX2_withLetter 22 = .ok (.iconst 1, 1) := by decide +kernel
theorem dX2_withLetter_23 : decode cX2_withLetter 23 = .ok (.iadd, 1) := by decide +kernel
theorem dX2_withLetter_24 : decode cX2_withLetter 24 = .ok (.ireturn, 1) := by decide +kernel
theorem dJ9_abs_0f7a4_0 : decode cJ9_abs_0f7a4 0 = .ok (.iload_n 0, 1) := by decide +kernel
theorem dJ9_abs_0f7a4_1 : decode cJ9_abs_0f7a4 1 = .ok (.ifCond .ge 8, 3) := by decide +kernel
theorem dJ9_abs_0f7a4_4 : decode cJ9_abs_0f7a4 4 = .ok (.iload_n 0, 1) := by decide +kernel
theorem dJ9_abs_0f7a4_5 : decode cJ9_abs_0f7a4 5 = .ok (.ineg, 1) := by decide +kernel
theorem dJ9_abs_0f7a4_6 : decode cJ9_abs_0f7a4 6 = .ok (.goto 4, 3) := by decide +kernel
theorem dJ9_abs_0f7a4_9 : decode cJ9_abs_0f7a4 9 = .ok (.iload_n 0, 1) := by decide +kernel
theorem dJ9_abs_0f7a4_10 : decode cJ9_abs_0f7a4 10 = .ok (.ireturn, 1) := by decide +kernel
theorem dJ9_max_7cf53_0 : decode cJ9_max_7cf53 0 = .ok (.iload_n 0, 1) := by decide +kernel
theorem dJ9_max_7cf53_1 : decode cJ9_max_7cf53 1 = .ok (.iload_n 1, 1) := by decide +kernel
theorem dJ9_max_7cf53_2 : decode cJ9_max_7cf53 2 = .ok (.if_icmp .lt 7, 3) := by decide +kernel
theorem dJ9_max_7cf53_5 : decode cJ9_max_7cf53 5 = .ok (.iload_n 0, 1) := by decide +kernel
theorem dJ9_max_7cf53_6 : decode cJ9_max_7cf53 6 = .ok (.goto 4, 3) := by decide +kernel
theorem dJ9_max_7cf53_9 : decode cJ9_max_7cf53 9 = .ok (.iload_n 1, 1) := by decide +kernel
theorem dJ9_max_7cf53_10 : decode cJ9_max_7cf53 10 = .ok (.ireturn, 1) := by decide +kernel
theorem dJ9_min_7cf53_0 : decode cJ9_min_7cf53 0 = .ok (.iload_n 0, 1) := by decide +kernel
theorem dJ9_min_7cf53_1 : decode cJ9_min_7cf53 1 = .ok (.iload_n 1, 1) := by decide +kernel
theorem dJ9_min_7cf53_2 : decode cJ9_min_7cf53 2 = .ok (.if_icmp .gt 7, 3) := by decide +kernel
theorem dJ9_min_7cf53_5 : decode cJ9_min_7cf53 5 = .ok (.iload_n 0, 1) := by decide +kernel
theorem dJ9_min_7cf53_6 : decode cJ9_min_7cf53 6 = .ok (.goto 4, 3) := by decide +kernel
theorem dJ9_min_7cf53_9 : decode cJ9_min_7cf53 9 = .ok (.iload_n 1, 1) := by decide +kernel
theorem dJ9_min_7cf53_10 : decode cJ9_min_7cf53 10 = .ok (.ireturn, 1) := by decide +kernel
theorem dJ7_fill_53178_0 : decode cJ7_fill_53178 0 = .ok (.iconst 0, 1) := by decide +kernel
theorem dJ7_fill_53178_1 : decode cJ7_fill_53178 1 = .ok (.istore_n 2, 1) := by decide +kernel
theorem dJ7_fill_53178_2 : decode cJ7_fill_53178 2 = .ok (.aload_n 0, 1) := by decide +kernel
theorem dJ7_fill_53178_3 : decode cJ7_fill_53178 3 = .ok (.arraylength, 1) := by decide +kernel
theorem dJ7_fill_53178_4 : decode cJ7_fill_53178 4 = .ok (.istore_n 3, 1) := by decide +kernel
theorem dJ7_fill_53178_5 : decode cJ7_fill_53178 5 = .ok (.iload_n 2, 1) := by decide +kernel
theorem dJ7_fill_53178_6 : decode cJ7_fill_53178 6 = .ok (.iload_n 3, 1) := by decide +kernel
theorem dJ7_fill_53178_7 : decode cJ7_fill_53178 7 = .ok (.if_icmp .ge 13, 3) := by decide +kernel
theorem dJ7_fill_53178_10 : decode cJ7_fill_53178 10 = .ok (.aload_n 0, 1) := by decide +kernel
theorem dJ7_fill_53178_11 : decode cJ7_fill_53178 11 = .ok (.iload_n 2, 1) := by decide +kernel
theorem dJ7_fill_53178_12 : decode cJ7_fill_53178 12 = .ok (.iload_n 1, 1) := by decide +kernel
theorem dJ7_fill_53178_13 : decode cJ7_fill_53178 13 = .ok (.iastore, 1) := by decide +kernel
theorem dJ7_fill_53178_14 : decode cJ7_fill_53178 14 = .ok (.iinc 2 1, 3) := by decide +kernel
theorem dJ7_fill_53178_17 : decode cJ7_fill_53178 17 = .ok (.goto (-12), 3) := by decide +kernel
theorem dJ7_fill_53178_20 : decode cJ7_fill_53178 20 = .ok (.return_, 1) := by decide +kernel
end
section
theorem dL_cell_0 : decode cL_cell 0 = .ok (.iload_n 1, 1) := by decide +kernel
theorem dL_cell_1 : decode cL_cell 1 = .ok (.aload_n 0, 1) := by decide +kernel
theorem dL_cell_2 : decode cL_cell 2 = .ok (.arraylength, 1) := by decide +kernel
theorem dL_cell_3 : decode cL_cell 3 = .ok (.if_icmp .ge 9, 3) := by decide +kernel
theorem dL_cell_6 : decode cL_cell 6 = .ok (.aload_n 0, 1) := by decide +kernel
theorem dL_cell_7 : decode cL_cell 7 = .ok (.iload_n 1, 1) := by decide +kernel
theorem dL_cell_8 : decode cL_cell 8 = .ok (.iaload, 1) := by decide +kernel
theorem dL_cell_9 : decode cL_cell 9 = .ok (.goto 18, 3) := by decide +kernel
theorem dL_cell_12 : decode cL_cell 12 = .ok (.sipush 7919, 3) := by decide +kernel
theorem dL_cell_15 : decode cL_cell 15 = .ok (.iload_n 1, 1) := by decide +kernel
theorem dL_cell_16 : decode cL_cell 16 = .ok (.sipush 347, 3) := by decide +kernel
theorem dL_cell_19 : decode cL_cell 19 = .ok (.iadd, 1) := by decide +kernel
theorem dL_cell_20 : decode cL_cell 20 = .ok (.imul, 1) := by decide +kernel
theorem dL_cell_21 : decode cL_cell 21 = .ok (.iload_n 1, 1) := by decide +kernel
theorem dL_cell_22 : decode cL_cell 22 = .ok (.sipush 2621, 3) := by decide +kernel
theorem dL_cell_25 : decode cL_cell 25 = .ok (.iadd, 1) := by decide +kernel
theorem dL_cell_26 : decode cL_cell 26 = .ok (.imul, 1) := by decide +kernel
theorem dL_cell_27 : decode cL_cell 27 = .ok (.ireturn, 1) := by decide +kernel
theorem dL_low_0 : decode cL_low 0 = .ok (.iload_n 0, 1) := by decide +kernel
theorem dL_low_1 : decode cL_low 1 = .ok (.ldc 7, 2) := by decide +kernel
theorem dL_low_3 : decode cL_low 3 = .ok (.iand, 1) := by decide +kernel
theorem dL_low_4 : decode cL_low 4 = .ok (.iload_n 1, 1) := by decide +kernel
theorem dL_low_5 : decode cL_low 5 = .ok (.irem, 1) := by decide +kernel
theorem dL_low_6 : decode cL_low 6 = .ok (.ireturn, 1) := by decide +kernel
theorem dL_does_0 : decode cL_does 0 = .ok (.iload_n 1, 1) := by decide +kernel
theorem dL_does_1 : decode cL_does 1 = .ok (.ifCond .ne 11, 3) := by decide +kernel
theorem dL_does_4 : decode cL_does 4 = .ok (.aload_n 0, 1) := by decide +kernel
theorem dL_does_5 : decode cL_does 5 = .ok (.iload_n 2, 1) := by decide +kernel
theorem dL_does_6 : decode cL_does 6 = .ok (.invokevirtual 8, 3) := by decide +kernel
theorem dL_does_9 : decode cL_does 9 = .ok (.goto 50, 3) := by decide +kernel
theorem dL_does_12 : decode cL_does 12 = .ok (.iload_n 1, 1) := by decide +kernel
theorem dL_does_13 : decode cL_does 13 = .ok (.iconst 1, 1) := by decide +kernel
theorem dL_does_14 : decode cL_does 14 = .ok (.if_icmp .ne 11, 3) := by decide +kernel
theorem dL_does_17 : decode cL_does 17 = .ok (.aload_n 0, 1) := by decide +kernel
theorem dL_does_18 : decode cL_does 18 = .ok (.iload_n 2, 1) := by decide +kernel
theorem dL_does_19 : decode cL_does 19 = .ok (.invokevirtual 14, 3) := by decide +kernel
theorem dL_does_22 : decode cL_does 22 = .ok (.goto 37, 3) := by decide +kernel
theorem dL_does_25 : decode cL_does 25 = .ok (.iload_n 1, 1) := by decide +kernel
theorem dL_does_26 : decode cL_does 26 = .ok (.iconst 2, 1) := by decide +kernel
theorem dL_does_27 : decode cL_does 27 = .ok (.if_icmp .ne 12, 3) := by decide +kernel
theorem dL_does_30 : decode cL_does 30 = .ok (.aload_n 0, 1) := by decide +kernel
theorem dL_does_31 : decode cL_does 31 = .ok (.iload_n 2, 1) := by decide +kernel
theorem dL_does_32 : decode cL_does 32 = .ok (.iload_n 3, 1) := by decide +kernel
theorem dL_does_33 : decode cL_does 33 = .ok (.invokevirtual 17, 3) := by decide +kernel
theorem dL_does_36 : decode cL_does 36 = .ok (.goto 23, 3) := by decide +kernel
theorem dL_does_39 : decode cL_does 39 = .ok (.iload_n 1, 1) := by decide +kernel
theorem dL_does_40 : decode cL_does 40 = .ok (.iconst 3, 1) := by decide +kernel
theorem dL_does_41 : decode cL_does 41 = .ok (.if_icmp .ne 12, 3) := by decide +kernel
theorem dL_does_44 : decode cL_does 44 = .ok (.aload_n 0, 1) := by decide +kernel
theorem dL_does_45 : decode cL_does 45 = .ok (.iload_n 2, 1) := by decide +kernel
theorem dL_does_46 : decode cL_does 46 = .ok (.iload_n 3, 1) := by decide +kernel
theorem dL_does_47 : decode cL_does 47 = .ok (.invokestatic 21, 3) := by decide +kernel
theorem dL_does_50 : decode cL_does 50 = .ok (.goto 9, 3) := by decide +kernel
theorem dL_does_53 : decode cL_does 53 = .ok (.aload_n 0, 1) := by decide +kernel
theorem dL_does_54 : decode cL_does 54 = .ok (.iload_n 2, 1) := by decide +kernel
theorem dL_does_55 : decode cL_does 55 = .ok (.iload_n 3, 1) := by decide +kernel
theorem dL_does_56 : decode cL_does 56 = .ok (.invokevirtual 27, 3) := by decide +kernel
theorem dL_does_59 : decode cL_does 59 = .ok (.ireturn, 1) := by decide +kernel
theorem dL_does_60 : decode cL_does 60 = .ok (.astore 4, 2) := by decide +kernel
theorem dL_does_62 : decode cL_does 62 = .ok (.ldc 32, 2) := by decide +kernel
theorem dL_does_64 : decode cL_does 64 = .ok (.ireturn, 1) := by decide +kernel
theorem dL_does_65 : decode cL_does 65 = .ok (.astore 4, 2) := by decide +kernel
theorem dL_does_67 : decode cL_does 67 = .ok (.ldc 32, 2) := by decide +kernel
theorem dL_does_69 : decode cL_does 69 = .ok (.ireturn, 1) := by decide +kernel
theorem dL_does_70 : decode cL_does 70 = .ok (.astore 4, 2) := by decide +kernel
theorem dL_does_72 : decode cL_does 72 = .ok (.ldc 32, 2) := by decide +kernel
theorem dL_does_74 : decode cL_does 74 = .ok (.ireturn, 1) := by decide +kernel
theorem dL_does_75 : decode cL_does 75 = .ok (.astore 4, 2) := by decide +kernel
theorem dL_does_77 : decode cL_does 77 = .ok (.ldc 32, 2) := by decide +kernel
theorem dL_does_79 : decode cL_does 79 = .ok (.ireturn, 1) := by decide +kernel
theorem dL_base_0 : decode cL_base 0 = .ok (.aload_n 0, 1) := by decide +kernel
theorem dL_base_1 : decode cL_base 1 = .ok (.iload_n 1, 1) := by decide +kernel
theorem dL_base_2 : decode cL_base 2 = .ok (.iload_n 2, 1) := by decide +kernel
theorem dL_base_3 : decode cL_base 3 = .ok (.invokevirtual 39, 3) := by decide +kernel
theorem dL_base_6 : decode cL_base 6 = .ok (.iconst 0, 1) := by decide +kernel
theorem dL_base_7 : decode cL_base 7 = .ok (.ireturn, 1) := by decide +kernel
theorem dL_cableAt_0 : decode cL_cableAt 0 = .ok (.aload_n 0, 1) := by decide +kernel
theorem dL_cableAt_1 : decode cL_cableAt 1 = .ok (.iload_n 1, 1) := by decide +kernel
theorem dL_cableAt_2 : decode cL_cableAt 2 = .ok (.invokevirtual 42, 3) := by decide +kernel
theorem dL_cableAt_5 : decode cL_cableAt 5 = .ok (.ireturn, 1) := by decide +kernel
theorem dL_cableAt_6 : decode cL_cableAt 6 = .ok (.astore_n 2, 1) := by decide +kernel
theorem dL_cableAt_7 : decode cL_cableAt 7 = .ok (.ldc 32, 2) := by decide +kernel
theorem dL_cableAt_9 : decode cL_cableAt 9 = .ok (.ireturn, 1) := by decide +kernel
theorem dL_letterAt_0 : decode cL_letterAt 0 = .ok (.aload_n 0, 1) := by decide +kernel
theorem dL_letterAt_1 : decode cL_letterAt 1 = .ok (.iload_n 1, 1) := by decide +kernel
theorem dL_letterAt_2 : decode cL_letterAt 2 = .ok (.invokevirtual 45, 3) := by decide +kernel
theorem dL_letterAt_5 : decode cL_letterAt 5 = .ok (.ireturn, 1) := by decide +kernel
theorem dL_letterAt_6 : decode cL_letterAt 6 = .ok (.astore_n 2, 1) := by decide +kernel
theorem dL_letterAt_7 : decode cL_letterAt 7 = .ok (.ldc 32, 2) := by decide +kernel
theorem dL_letterAt_9 : decode cL_letterAt 9 = .ok (.ireturn, 1) := by decide +kernel
theorem dL_act_0 : decode cL_act 0 = .ok (.iload_n 3, 1) := by decide +kernel
theorem dL_act_1 : decode cL_act 1 = .ok (.bipush 24, 2) := by decide +kernel
theorem dL_act_3 : decode cL_act 3 = .ok (.ishr, 1) := by decide +kernel
theorem dL_act_4 : decode cL_act 4 = .ok (.bipush 8, 2) := by decide +kernel
theorem dL_act_6 : decode cL_act 6 = .ok (.invokestatic 48, 3) := by decide +kernel
theorem dL_act_9 : decode cL_act 9 = .ok (.ifCond .ne 7, 3) := by decide +kernel
theorem dL_act_12 : decode cL_act 12 = .ok (.iconst 1, 1) := by decide +kernel
theorem dL_act_13 : decode cL_act 13 = .ok (.goto 4, 3) := by decide +kernel
theorem dL_act_16 : decode cL_act 16 = .ok (.iconst 0, 1) := by decide +kernel
theorem dL_act_17 : decode cL_act 17 = .ok (.istore 4, 2) := by decide +kernel
theorem dL_act_19 : decode cL_act 19 = .ok (.iload_n 3, 1) := by decide +kernel
theorem dL_act_20 : decode cL_act 20 = .ok (.bipush 20, 2) := by decide +kernel
theorem dL_act_22 : decode cL_act 22 = .ok (.invokestatic 48, 3) := by decide +kernel
theorem dL_act_25 : decode cL_act 25 = .ok (.istore 5, 2) := by decide +kernel
theorem dL_act_27 : decode cL_act 27 = .ok (.iload_n 3, 1) := by decide +kernel
theorem dL_act_28 : decode cL_act 28 = .ok (.iconst 4, 1) := by decide +kernel
theorem dL_act_29 : decode cL_act 29 = .ok (.ishr, 1) := by decide +kernel
theorem dL_act_30 : decode cL_act 30 = .ok (.iload 4, 2) := by decide +kernel
theorem dL_act_32 : decode cL_act 32 = .ok (.ifCond .eq 8, 3) := by decide +kernel
theorem dL_act_35 : decode cL_act 35 = .ok (.bipush 10, 2) := by decide +kernel
theorem dL_act_37 : decode cL_act 37 = .ok (.goto 4, 3) := by decide +kernel
theorem dL_act_40 : decode cL_act 40 = .ok (.iload_n 1, 1) := by decide +kernel
theorem dL_act_41 : decode cL_act 41 = .ok (.invokestatic 48, 3) := by decide +kernel
theorem dL_act_44 : decode cL_act 44 = .ok (.iload 4, 2) := by decide +kernel
theorem dL_act_46 : decode cL_act 46 = .ok (.ifCond .eq 7, 3) := by decide +kernel
theorem dL_act_49 : decode cL_act 49 = .ok (.iconst 1, 1) := by decide +kernel
theorem dL_act_50 : decode cL_act 50 = .ok (.goto 4, 3) := by decide +kernel
theorem dL_act_53 : decode cL_act 53 = .ok (.iconst 0, 1) := by decide +kernel
theorem dL_act_54 : decode cL_act 54 = .ok (.isub, 1) := by decide +kernel
theorem dL_act_55 : decode cL_act 55 = .ok (.istore 6, 2) := by decide +kernel
theorem dL_act_57 : decode cL_act 57 = .ok (.iload_n 3, 1) := by decide +kernel
theorem dL_act_58 : decode cL_act 58 = .ok (.bipush 8, 2) := by decide +kernel
theorem dL_act_60 : decode cL_act 60 = .ok (.ishr, 1) := by decide +kernel
theorem dL_act_61 : decode cL_act 61 = .ok (.iload 4, 2) := by decide +kernel
theorem dL_act_63 : decode cL_act 63 = .ok (.ifCond .eq 8, 3) := by decide +kernel
theorem dL_act_66 : decode cL_act 66 = .ok (.bipush 10, 2) := by decide +kernel
theorem dL_act_68 : decode cL_act 68 = .ok (.goto 4, 3) := by decide +kernel
theorem dL_act_71 : decode cL_act 71 = .ok (.iload_n 2, 1) := by decide +kernel
theorem dL_act_72 : decode cL_act 72 = .ok (.invokestatic 48, 3) := by decide +kernel
theorem dL_act_75 : decode cL_act 75 = .ok (.iload 4, 2) := by decide +kernel
theorem dL_act_77 : decode cL_act 77 = .ok (.ifCond .eq 7, 3) := by decide +kernel
theorem dL_act_80 : decode cL_act 80 = .ok (.iconst 1, 1) := by decide +kernel
theorem dL_act_81 : decode cL_act 81 = .ok (.goto 4, 3) := by decide +kernel
theorem dL_act_84 : decode cL_act 84 = .ok (.iconst 0, 1) := by decide +kernel
theorem dL_act_85 : decode cL_act 85 = .ok (.isub, 1) := by decide +kernel
theorem dL_act_86 : decode cL_act 86 = .ok (.istore 7, 2) := by decide +kernel
theorem dL_act_88 : decode cL_act 88 = .ok (.iload 5, 2) := by decide +kernel
theorem dL_act_90 : decode cL_act 90 = .ok (.bipush 11, 2) := by decide +kernel
theorem dL_act_92 : decode cL_act 92 = .ok (.if_icmp .ge 35, 3) := by decide +kernel
theorem dL_act_95 : decode cL_act 95 = .ok (.aload_n 0, 1) := by decide +kernel
theorem dL_act_96 : decode cL_act 96 = .ok (.iconst 0, 1) := by decide +kernel
theorem dL_act_97 : decode cL_act 97 = .ok (.iload 4, 2) := by decide +kernel
theorem dL_act_99 : decode cL_act 99 = .ok (.ifCond .eq 16, 3) := by decide +kernel
theorem dL_act_102 : decode cL_act 102 = .ok (.iload_n 3, 1) := by decide +kernel
theorem dL_act_103 : decode cL_act 103 = .ok (.iconst 4, 1) := by decide +kernel
theorem dL_act_104 : decode cL_act 104 = .ok (.ishr, 1) := by decide +kernel
theorem dL_act_105 : decode cL_act 105 = .ok (.bipush 8, 2) := by decide +kernel
theorem dL_act_107 : decode cL_act 107 = .ok (.invokestatic 48, 3) := by decide +kernel
theorem dL_act_110 : decode cL_act 110 = .ok (.iconst 2, 1) := by decide +kernel
theorem dL_act_111 : decode cL_act 111 = .ok (.isub, 1) := by decide +kernel
theorem dL_act_112 : decode cL_act 112 = .ok (.goto 10, 3) := by decide +kernel
theorem dL_act_115 : decode cL_act 115 = .ok (.iload_n 3, 1) := by decide +kernel
theorem dL_act_116 : decode cL_act 116 = .ok (.iconst 4, 1) := by decide +kernel
theorem dL_act_117 : decode cL_act 117 = .ok (.ishr, 1) := by decide +kernel
theorem dL_act_118 : decode cL_act 118 = .ok (.iconst 4, 1) := by decide +kernel
theorem dL_act_119 : decode cL_act 119 = .ok (.invokestatic 48, 3) := by decide +kernel
theorem dL_act_122 : decode cL_act 122 = .ok (.iconst 0, 1) := by decide +kernel
theorem dL_act_123 : decode cL_act 123 = .ok (.invokestatic 51, 3) := by decide +kernel
theorem dL_act_126 : decode cL_act 126 = .ok (.ireturn, 1) := by decide +kernel
theorem dL_act_127 : decode cL_act 127 = .ok (.iload 5, 2) := by decide +kernel
theorem dL_act_129 : decode cL_act 129 = .ok (.bipush 14, 2) := by decide +kernel
theorem dL_act_131 : decode cL_act 131 = .ok (.if_icmp .ge 13, 3) := by decide +kernel
theorem dL_act_134 : decode cL_act 134 = .ok (.aload_n 0, 1) := by decide +kernel
theorem dL_act_135 : decode cL_act 135 = .ok (.iconst 4, 1) := by decide +kernel
theorem dL_act_136 : decode cL_act 136 = .ok (.iload 6, 2) := by decide +kernel
theorem dL_act_138 : decode cL_act 138 = .ok (.iload 7, 2) := by decide +kernel
theorem dL_act_140 : decode cL_act 140 = .ok (.invokestatic 51, 3) := by decide +kernel
theorem dL_act_143 : decode cL_act 143 = .ok (.ireturn, 1) := by decide +kernel
theorem dL_act_144 : decode cL_act 144 = .ok (.iload 5, 2) := by decide +kernel
theorem dL_act_146 : decode cL_act 146 = .ok (.bipush 16, 2) := by decide +kernel
theorem dL_act_148 : decode cL_act 148 = .ok (.if_icmp .ge 38, 3) := by decide +kernel
theorem dL_act_151 : decode cL_act 151 = .ok (.aload_n 0, 1) := by decide +kernel
theorem dL_act_152 : decode cL_act 152 = .ok (.iconst 1, 1) := by decide +kernel
theorem dL_act_153 : decode cL_act 153 = .ok (.iload 4, 2) := by decide +kernel
theorem dL_act_155 : decode cL_act 155 = .ok (.ifCond .eq 16, 3) := by decide +kernel
theorem dL_act_158 : decode cL_act 158 = .ok (.iload_n 3, 1) := by decide +kernel
theorem dL_act_159 : decode cL_act 159 = .ok (.iconst 5, 1) := by decide +kernel
theorem dL_act_160 : decode cL_act 160 = .ok (.ishr, 1) := by decide +kernel
theorem dL_act_161 : decode cL_act 161 = .ok (.bipush 80, 2) := by decide +kernel
theorem dL_act_163 : decode cL_act 163 = .ok (.invokestatic 48, 3) := by decide +kernel
theorem dL_act_166 : decode cL_act 166 = .ok (.iconst 5, 1) := by decide +kernel
theorem dL_act_167 : decode cL_act 167 = .ok (.isub, 1) := by decide +kernel
theorem dL_act_168 : decode cL_act 168 = .ok (.goto 13, 3) := by decide +kernel
theorem dL_act_171 : decode cL_act 171 = .ok (.iconst 1, 1) := by decide +kernel
theorem dL_act_172 : decode cL_act 172 = .ok (.iload_n 3, 1) := by decide +kernel
theorem dL_act_173 : decode cL_act 173 = .ok (.iconst 5, 1) := by decide +kernel
theorem dL_act_174 : decode cL_act 174 = .ok (.ishr, 1) := by decide +kernel
theorem dL_act_175 : decode cL_act 175 = .ok (.bipush 9, 2) := by decide +kernel
theorem dL_act_177 : decode cL_act 177 = .ok (.invokestatic 48, 3) := by decide +kernel
theorem dL_act_180 : decode cL_act 180 = .ok (.iadd, 1) := by decide +kernel
theorem dL_act_181 : decode cL_act 181 = .ok (.iconst 0, 1) := by decide +kernel
theorem dL_act_182 : decode cL_act 182 = .ok (.invokestatic 51, 3) := by decide +kernel
theorem dL_act_185 : decode cL_act 185 = .ok (.ireturn, 1) := by decide +kernel
theorem dL_act_186 : decode cL_act 186 = .ok (.iload 5, 2) := by decide +kernel
theorem dL_act_188 : decode cL_act 188 = .ok (.bipush 16, 2) := by decide +kernel
theorem dL_act_190 : decode cL_act 190 = .ok (.if_icmp .ne 14, 3) := by decide +kernel
theorem dL_act_193 : decode cL_act 193 = .ok (.aload_n 0, 1) := by decide +kernel
theorem dL_act_194 : decode cL_act 194 = .ok (.iconst 1, 1) := by decide +kernel
theorem dL_act_195 : decode cL_act 195 = .ok (.bipush 60, 2) := by decide +kernel
theorem dL_act_197 : decode cL_act 197 = .ok (.iconst 0, 1) := by decide +kernel
theorem dL_act_198 : decode cL_act 198 = .ok (.invokestatic 51, 3) := by decide +kernel
theorem dL_act_201 : decode cL_act 201 = .ok (.goto 23, 3) := by decide +kernel
theorem dL_act_204 : decode cL_act 204 = .ok (.aload_n 0, 1) := by decide +kernel
theorem dL_act_205 : decode cL_act 205 = .ok (.iload 5, 2) := by decide +kernel
theorem dL_act_207 : decode cL_act 207 = .ok (.bipush 17, 2) := by decide +kernel
theorem dL_act_209 : decode cL_act 209 = .ok (.if_icmp .ne 7, 3) := by decide +kernel
theorem dL_act_212 : decode cL_act 212 = .ok (.iconst 3, 1) := by decide +kernel
theorem dL_act_213 : decode cL_act 213 = .ok (.goto 4, 3) := by decide +kernel
theorem dL_act_216 : decode cL_act 216 = .ok (.iconst 2, 1) := by decide +kernel
theorem dL_act_217 : decode cL_act 217 = .ok (.iload 6, 2) := by decide +kernel
theorem dL_act_219 : decode cL_act 219 = .ok (.iload 7, 2) := by decide +kernel
theorem dL_act_221 : decode cL_act 221 = .ok (.invokestatic 51, 3) := by decide +kernel
theorem dL_act_224 : decode cL_act 224 = .ok (.ireturn, 1) := by decide +kernel
theorem dL_areAlike_0 : decode cL_areAlike 0 = .ok (.aload_n 0, 1) := by decide +kernel
theorem dL_areAlike_1 : decode cL_areAlike 1 = .ok (.invokevirtual 55, 3) := by decide +kernel
theorem dL_areAlike_4 : decode cL_areAlike 4 = .ok (.aload_n 1, 1) := by decide +kernel
theorem dL_areAlike_5 : decode cL_areAlike 5 = .ok (.invokevirtual 55, 3) := by decide +kernel
theorem dL_areAlike_8 : decode cL_areAlike 8 = .ok (.if_icmp .ne 84, 3) := by decide +kernel
theorem dL_areAlike_11 : decode cL_areAlike 11 = .ok (.aload_n 0, 1) := by decide +kernel
theorem dL_areAlike_12 : decode cL_areAlike 12 = .ok (.invokevirtual 59, 3) := by decide +kernel
theorem dL_areAlike_15 : decode cL_areAlike 15 = .ok (.aload_n 1, 1) := by decide +kernel
theorem dL_areAlike_16 : decode cL_areAlike 16 = .ok (.invokevirtual 59, 3) := by decide +kernel
theorem dL_areAlike_19 : decode cL_areAlike 19 = .ok (.if_icmp .ne 73, 3) := by decide +kernel
theorem dL_areAlike_22 : decode cL_areAlike 22 = .ok (.aload_n 0, 1) := by decide +kernel
theorem dL_areAlike_23 : decode cL_areAlike 23 = .ok (.invokevirtual 62, 3) := by decide +kernel
theorem dL_areAlike_26 : decode cL_areAlike 26 = .ok (.aload_n 1, 1) := by decide +kernel
theorem dL_areAlike_27 : decode cL_areAlike 27 = .ok (.invokevirtual 62, 3) := by decide +kernel
theorem dL_areAlike_30 : decode cL_areAlike 30 = .ok (.if_icmp .ne 62, 3) := by decide +kernel
theorem dL_areAlike_33 : decode cL_areAlike 33 = .ok (.aload_n 0, 1) := by decide +kernel
theorem dL_areAlike_34 : decode cL_areAlike 34 = .ok (.invokevirtual 65, 3) := by decide +kernel
theorem dL_areAlike_37 : decode cL_areAlike 37 = .ok (.aload_n 1, 1) := by decide +kernel
theorem dL_areAlike_38 : decode cL_areAlike 38 = .ok (.invokevirtual 65, 3) := by decide +kernel
theorem dL_areAlike_41 : decode cL_areAlike 41 = .ok (.if_icmp .ne 51, 3) := by decide +kernel
theorem dL_areAlike_44 : decode cL_areAlike 44 = .ok (.aload_n 0, 1) := by decide +kernel
theorem dL_areAlike_45 : decode cL_areAlike 45 = .ok (.invokevirtual 68, 3) := by decide +kernel
theorem dL_areAlike_48 : decode cL_areAlike 48 = .ok (.aload_n 1, 1) := by decide +kernel
theorem dL_areAlike_49 : decode cL_areAlike 49 = .ok (.invokevirtual 68, 3) := by decide +kernel
theorem dL_areAlike_52 : decode cL_areAlike 52 = .ok (.if_icmp .ne 40, 3) := by decide +kernel
theorem dL_areAlike_55 : decode cL_areAlike 55 = .ok (.aload_n 0, 1) := by decide +kernel
theorem dL_areAlike_56 : decode cL_areAlike 56 = .ok (.invokevirtual 71, 3) := by decide +kernel
theorem dL_areAlike_59 : decode cL_areAlike 59 = .ok (.aload_n 1, 1) := by decide +kernel
theorem dL_areAlike_60 : decode cL_areAlike 60 = .ok (.invokevirtual 71, 3) := by decide +kernel
theorem dL_areAlike_63 : decode cL_areAlike 63 = .ok (.if_icmp .ne 29, 3) := by decide +kernel
theorem dL_areAlike_66 : decode cL_areAlike 66 = .ok (.aload_n 0, 1) := by decide +kernel
theorem dL_areAlike_67 : decode cL_areAlike 67 = .ok (.invokevirtual 74, 3) := by decide +kernel
theorem dL_areAlike_70 : decode cL_areAlike 70 = .ok (.aload_n 1, 1) := by decide +kernel
theorem dL_areAlike_71 : decode cL_areAlike 71 = .ok (.invokevirtual 74, 3) := by decide +kernel
theorem dL_areAlike_74 : decode cL_areAlike 74 = .ok (.if_icmp .ne 18, 3) := by decide +kernel
theorem dL_areAlike_77 : decode cL_areAlike 77 = .ok (.aload_n 0, 1) := by decide +kernel
theorem dL_areAlike_78 : decode cL_areAlike 78 = .ok (.invokevirtual 77, 3) := by decide +kernel
theorem dL_areAlike_81 : decode cL_areAlike 81 = .ok (.aload_n 1, 1) := by decide +kernel
theorem dL_areAlike_82 : decode cL_areAlike 82 = .ok (.invokevirtual 77, 3) := by decide +kernel
theorem dL_areAlike_85 : decode cL_areAlike 85 = .ok (.if_icmp .ne 7, 3) := by decide +kernel
theorem dL_areAlike_88 : decode cL_areAlike 88 = .ok (.iconst 1, 1) := by decide +kernel
theorem dL_areAlike_89 : decode cL_areAlike 89 = .ok (.goto 4, 3) := by decide +kernel
theorem dL_areAlike_92 : decode cL_areAlike 92 = .ok (.iconst 0, 1) := by decide +kernel
theorem dL_areAlike_93 : decode cL_areAlike 93 = .ok (.istore_n 2, 1) := by decide +kernel
theorem dL_areAlike_94 : decode cL_areAlike 94 = .ok (.iconst 0, 1) := by decide +kernel
theorem dL_areAlike_95 : decode cL_areAlike 95 = .ok (.istore_n 3, 1) := by decide +kernel
theorem dL_areAlike_96 : decode cL_areAlike 96 = .ok (.iload_n 3, 1) := by decide +kernel
theorem dL_areAlike_97 : decode cL_areAlike 97 = .ok (.iconst 4, 1) := by decide +kernel
theorem dL_areAlike_98 : decode cL_areAlike 98 = .ok (.if_icmp .ge 45, 3) := by decide +kernel
theorem dL_areAlike_101 : decode cL_areAlike 101 = .ok (.iload_n 2, 1) := by decide +kernel
theorem dL_areAlike_102 : decode cL_areAlike 102 = .ok (.ifCond .eq 41, 3) := by decide +kernel
theorem dL_areAlike_105 : decode cL_areAlike 105 = .ok (.aload_n 0, 1) := by decide +kernel
theorem dL_areAlike_106 : decode cL_areAlike 106 = .ok (.iload_n 3, 1) := by decide +kernel
theorem dL_areAlike_107 : decode cL_areAlike 107 = .ok (.invokestatic 80, 3) := by decide +kernel
theorem dL_areAlike_110 : decode cL_areAlike 110 = .ok (.aload_n 1, 1) := by decide +kernel
theorem dL_areAlike_111 : decode cL_areAlike 111 = .ok (.iload_n 3, 1) := by decide +kernel
theorem dL_areAlike_112 : decode cL_areAlike 112 = .ok (.invokestatic 80, 3) := by decide +kernel
theorem dL_areAlike_115 : decode cL_areAlike 115 = .ok (.if_icmp .ne 20, 3) := by decide +kernel
theorem dL_areAlike_118 : decode cL_areAlike 118 = .ok (.aload_n 0, 1) := by decide +kernel
theorem dL_areAlike_119 : decode cL_areAlike 119 = .ok (.iload_n 3, 1) := by decide +kernel
theorem dL_areAlike_120 : decode cL_areAlike 120 = .ok (.invokestatic 83, 3) := by decide +kernel
theorem dL_areAlike_123 : decode cL_areAlike 123 = .ok (.aload_n 1, 1) := by decide +kernel
theorem dL_areAlike_124 : decode cL_areAlike 124 = .ok (.iload_n 3, 1) := by decide +kernel
theorem dL_areAlike_125 : decode cL_areAlike 125 = .ok (.invokestatic 83, 3) := by decide +kernel
theorem dL_areAlike_128 : decode cL_areAlike 128 = .ok (.if_icmp .ne 7, 3) := by decide +kernel
theorem dL_areAlike_131 : decode cL_areAlike 131 = .ok (.iconst 1, 1) := by decide +kernel
theorem dL_areAlike_132 : decode cL_areAlike 132 = .ok (.goto 4, 3) := by decide +kernel
theorem dL_areAlike_135 : decode cL_areAlike 135 = .ok (.iconst 0, 1) := by decide +kernel
theorem dL_areAlike_136 : decode cL_areAlike 136 = .ok (.istore_n 2, 1) := by decide +kernel
theorem dL_areAlike_137 : decode cL_areAlike 137 = .ok (.iinc 3 1, 3) := by decide +kernel
theorem dL_areAlike_140 : decode cL_areAlike 140 = .ok (.goto (-44), 3) := by decide +kernel
theorem dL_areAlike_143 : decode cL_areAlike 143 = .ok (.iload_n 2, 1) := by decide +kernel
theorem dL_areAlike_144 : decode cL_areAlike 144 = .ok (.ireturn, 1) := by decide +kernel
theorem dL_isPlaceSo_0 : decode cL_isPlaceSo 0 = .ok (.aload_n 0, 1) := by decide +kernel
theorem dL_isPlaceSo_1 : decode cL_isPlaceSo 1 = .ok (.invokevirtual 65, 3) := by decide +kernel
theorem dL_isPlaceSo_4 : decode cL_isPlaceSo 4 = .ok (.istore_n 1, 1) := by decide +kernel
theorem dL_isPlaceSo_5 : decode cL_isPlaceSo 5 = .ok (.aload_n 0, 1) := by decide +kernel
theorem dL_isPlaceSo_6 : decode cL_isPlaceSo 6 = .ok (.invokevirtual 62, 3) := by decide +kernel
theorem dL_isPlaceSo_9 : decode cL_isPlaceSo 9 = .ok (.istore_n 2, 1) := by decide +kernel
theorem dL_isPlaceSo_10 : decode cL_isPlaceSo 10 = .ok (.iconst 0, 1) := by decide +kernel
theorem dL_isPlaceSo_11 : decode cL_isPlaceSo 11 = .ok (.istore_n 3, 1) := by decide +kernel
theorem dL_isPlaceSo_12 : decode cL_isPlaceSo 12 = .ok (.iconst 0, 1) := by decide +kernel
theorem dL_isPlaceSo_13 : decode cL_isPlaceSo 13 = .ok (.istore 4, 2) := by decide +kernel
theorem dL_isPlaceSo_15 : decode cL_isPlaceSo 15 = .ok (.iload_n 1, 1) := by decide +kernel
theorem dL_isPlaceSo_16 : decode cL_isPlaceSo 16 = .ok (.ifCond .lt 104, 3) := by decide +kernel
theorem dL_isPlaceSo_19 : decode cL_isPlaceSo 19 = .ok (.aload_n 0, 1) := by decide +kernel
theorem dL_isPlaceSo_20 : decode cL_isPlaceSo 20 = .ok (.invokevirtual 68, 3) := by decide +kernel
theorem dL_isPlaceSo_23 : decode cL_isPlaceSo 23 = .ok (.ifCond .lt 97, 3) := by decide +kernel
theorem dL_isPlaceSo_26 : decode cL_isPlaceSo 26 = .ok (.iload_n 2, 1) := by decide +kernel
theorem dL_isPlaceSo_27 : decode cL_isPlaceSo 27 = .ok (.ifCond .lt 93, 3) := by decide +kernel
theorem dL_isPlaceSo_30 : decode cL_isPlaceSo 30 = .ok (.iload_n 2, 1) := by decide +kernel
theorem dL_isPlaceSo_31 : decode cL_isPlaceSo 31 = .ok (.iconst 3, 1) := by decide +kernel
theorem dL_isPlaceSo_32 : decode cL_isPlaceSo 32 = .ok (.if_icmp .gt 88, 3) := by decide +kernel
theorem dL_isPlaceSo_35 : decode cL_isPlaceSo 35 = .ok (.aload_n 0, 1) := by decide +kernel
theorem dL_isPlaceSo_36 : decode cL_isPlaceSo 36 = .ok (.iload_n 2, 1) := by decide +kernel
theorem dL_isPlaceSo_37 : decode cL_isPlaceSo 37 = .ok (.invokestatic 80, 3) := by decide +kernel
theorem dL_isPlaceSo_40 : decode cL_isPlaceSo 40 = .ok (.ldc 32, 2) := by decide +kernel
theorem dL_isPlaceSo_42 : decode cL_isPlaceSo 42 = .ok (.if_icmp .ne 78, 3) := by decide +kernel
theorem dL_isPlaceSo_45 : decode cL_isPlaceSo 45 = .ok (.aload_n 0, 1) := by decide +kernel
theorem dL_isPlaceSo_46 : decode cL_isPlaceSo 46 = .ok (.iconst (-1), 1) := by decide +kernel
theorem dL_isPlaceSo_47 : decode cL_isPlaceSo 47 = .ok (.invokestatic 80, 3) := by decide +kernel
theorem dL_isPlaceSo_50 : decode cL_isPlaceSo 50 = .ok (.ldc 32, 2) := by decide +kernel
theorem dL_isPlaceSo_52 : decode cL_isPlaceSo 52 = .ok (.if_icmp .ne 68, 3) := by decide +kernel
theorem dL_isPlaceSo_55 : decode cL_isPlaceSo 55 = .ok (.aload_n 0, 1) := by decide +kernel
theorem dL_isPlaceSo_56 : decode cL_isPlaceSo 56 = .ok (.iload_n 1, 1) := by decide +kernel
theorem dL_isPlaceSo_57 : decode cL_isPlaceSo 57 = .ok (.iconst 1, 1) := by decide +kernel
theorem dL_isPlaceSo_58 : decode cL_isPlaceSo 58 = .ok (.iadd, 1) := by decide +kernel
theorem dL_isPlaceSo_59 : decode cL_isPlaceSo 59 = .ok (.invokestatic 83, 3) := by decide +kernel
theorem dL_isPlaceSo_62 : decode cL_isPlaceSo 62 = .ok (.ldc 32, 2) := by decide +kernel
theorem dL_isPlaceSo_64 : decode cL_isPlaceSo 64 = .ok (.if_icmp .ne 56, 3) := by decide +kernel
theorem dL_isPlaceSo_67 : decode cL_isPlaceSo 67 = .ok (.aload_n 0, 1) := by decide +kernel
theorem dL_isPlaceSo_68 : decode cL_isPlaceSo 68 = .ok (.iconst (-1), 1) := by decide +kernel
theorem dL_isPlaceSo_69 : decode cL_isPlaceSo 69 = .ok (.invokestatic 83, 3) := by decide +kernel
theorem dL_isPlaceSo_72 : decode cL_isPlaceSo 72 = .ok (.ldc 32, 2) := by decide +kernel
theorem dL_isPlaceSo_74 : decode cL_isPlaceSo 74 = .ok (.if_icmp .ne 46, 3) := by decide +kernel
theorem dL_isPlaceSo_77 : decode cL_isPlaceSo 77 = .ok (.aload_n 0, 1) := by decide +kernel
theorem dL_isPlaceSo_78 : decode cL_isPlaceSo 78 = .ok (.invokevirtual 71, 3) := by decide +kernel
theorem dL_isPlaceSo_81 : decode cL_isPlaceSo 81 = .ok (.iload_n 1, 1) := by decide +kernel
theorem dL_isPlaceSo_82 : decode cL_isPlaceSo 82 = .ok (.if_icmp .lt 38, 3) := by decide +kernel
theorem dL_isPlaceSo_85 : decode cL_isPlaceSo 85 = .ok (.aload_n 0, 1) := by decide +kernel
theorem dL_isPlaceSo_86 : decode cL_isPlaceSo 86 = .ok (.invokevirtual 71, 3) := by decide +kernel
theorem dL_isPlaceSo_89 : decode cL_isPlaceSo 89 = .ok (.iload_n 1, 1) := by decide +kernel
theorem dL_isPlaceSo_90 : decode cL_isPlaceSo 90 = .ok (.isub, 1) := by decide +kernel
theorem dL_isPlaceSo_91 : decode cL_isPlaceSo 91 = .ok (.iconst 2, 1) := by decide +kernel
theorem dL_isPlaceSo_92 : decode cL_isPlaceSo 92 = .ok (.irem, 1) := by decide +kernel
theorem dL_isPlaceSo_93 : decode cL_isPlaceSo 93 = .ok (.ifCond .ne 27, 3) := by decide +kernel
theorem dL_isPlaceSo_96 : decode cL_isPlaceSo 96 = .ok (.aload_n 0, 1) := by decide +kernel
theorem dL_isPlaceSo_97 : decode cL_isPlaceSo 97 = .ok (.iconst 0, 1) := by decide +kernel
theorem dL_isPlaceSo_98 : decode cL_isPlaceSo 98 = .ok (.invokestatic 83, 3) := by decide +kernel
theorem dL_isPlaceSo_101 : decode cL_isPlaceSo 101 = .ok (.bipush 10, 2) := by decide +kernel
theorem dL_isPlaceSo_103 : decode cL_isPlaceSo 103 = .ok (.aload_n 0, 1) := by decide +kernel
theorem dL_isPlaceSo_104 : decode cL_isPlaceSo 104 = .ok (.invokevirtual 55, 3) := by decide +kernel
theorem dL_isPlaceSo_107 : decode cL_isPlaceSo 107 = .ok (.imul, 1) := by decide +kernel
theorem dL_isPlaceSo_108 : decode cL_isPlaceSo 108 = .ok (.aload_n 0, 1) := by decide +kernel
theorem dL_isPlaceSo_109 : decode cL_isPlaceSo 109 = .ok (.invokevirtual 59, 3) := by decide +kernel
theorem dL_isPlaceSo_112 : decode cL_isPlaceSo 112 = .ok (.iadd, 1) := by decide +kernel
theorem dL_isPlaceSo_113 : decode cL_isPlaceSo 113 = .ok (.if_icmp .ne 7, 3) := by decide +kernel
theorem dL_isPlaceSo_116 : decode cL_isPlaceSo 116 = .ok (.iconst 1, 1) := by decide +kernel
theorem dL_isPlaceSo_117 : decode cL_isPlaceSo 117 = .ok (.goto 4, 3) := by decide +kernel
theorem dL_isPlaceSo_120 : decode cL_isPlaceSo 120 = .ok (.iconst 0, 1) := by decide +kernel
theorem dL_isPlaceSo_121 : decode cL_isPlaceSo 121 = .ok (.istore 5, 2) := by decide +kernel
theorem dL_isPlaceSo_123 : decode cL_isPlaceSo 123 = .ok (.iconst 0, 1) := by decide +kernel
theorem dL_isPlaceSo_124 : decode cL_isPlaceSo 124 = .ok (.istore 6, 2) := by decide +kernel
theorem dL_isPlaceSo_126 : decode cL_isPlaceSo 126 = .ok (.iload 6, 2) := by decide +kernel
theorem dL_isPlaceSo_128 : decode cL_isPlaceSo 128 = .ok (.iload_n 2, 1) := by decide +kernel
theorem dL_isPlaceSo_129 : decode cL_isPlaceSo 129 = .ok (.if_icmp .ge 61, 3) := by decide +kernel
theorem dL_isPlaceSo_132 : decode cL_isPlaceSo 132 = .ok (.iload 5, 2) := by decide +kernel
theorem dL_isPlaceSo_134 : decode cL_isPlaceSo 134 = .ok (.ifCond .eq 56, 3) := by decide +kernel
theorem dL_isPlaceSo_137 : decode cL_isPlaceSo 137 = .ok (.aload_n 0, 1) := by decide +kernel
theorem dL_isPlaceSo_138 : decode cL_isPlaceSo 138 = .ok (.iload 6, 2) := by decide +kernel
theorem dL_isPlaceSo_140 : decode cL_isPlaceSo 140 = .ok (.invokevirtual 45, 3) := by decide +kernel
theorem dL_isPlaceSo_143 : decode cL_isPlaceSo 143 = .ok (.istore 7, 2) := by decide +kernel
theorem dL_isPlaceSo_145 : decode cL_isPlaceSo 145 = .ok (.iload 7, 2) := by decide +kernel
theorem dL_isPlaceSo_147 : decode cL_isPlaceSo 147 = .ok (.ifCond .lt 34, 3) := by decide +kernel
theorem dL_isPlaceSo_150 : decode cL_isPlaceSo 150 = .ok (.iload 7, 2) := by decide +kernel
theorem dL_isPlaceSo_152 : decode cL_isPlaceSo 152 = .ok (.bipush 6, 2) := by decide +kernel
theorem dL_isPlaceSo_154 : decode cL_isPlaceSo 154 = .ok (.if_icmp .ge 27, 3) := by decide +kernel
theorem dL_isPlaceSo_157 : decode cL_isPlaceSo 157 = .ok (.iload 6, 2) := by decide +kernel
theorem dL_isPlaceSo_159 : decode cL_isPlaceSo 159 = .ok (.ifCond .eq 18, 3) := by decide +kernel
theorem dL_isPlaceSo_162 : decode cL_isPlaceSo 162 = .ok (.aload_n 0, 1) := by decide +kernel
theorem dL_isPlaceSo_163 : decode cL_isPlaceSo 163 = .ok (.iload 6, 2) := by decide +kernel
theorem dL_isPlaceSo_165 : decode cL_isPlaceSo 165 = .ok (.iconst 1, 1) := by decide +kernel
theorem dL_isPlaceSo_166 : decode cL_isPlaceSo 166 = .ok (.isub, 1) := by decide +kernel
theorem dL_isPlaceSo_167 : decode cL_isPlaceSo 167 = .ok (.invokevirtual 45, 3) := by decide +kernel
theorem dL_isPlaceSo_170 : decode cL_isPlaceSo 170 = .ok (.iconst 1, 1) := by decide +kernel
theorem dL_isPlaceSo_171 : decode cL_isPlaceSo 171 = .ok (.ixor, 1) := by decide +kernel
theorem dL_isPlaceSo_172 : decode cL_isPlaceSo 172 = .ok (.iload 7, 2) := by decide +kernel
theorem dL_isPlaceSo_174 : decode cL_isPlaceSo 174 = .ok (.if_icmp .eq 7, 3) := by decide +kernel
theorem dL_isPlaceSo_177 : decode cL_isPlaceSo 177 = .ok (.iconst 1, 1) := by decide +kernel
theorem dL_isPlaceSo_178 : decode cL_isPlaceSo 178 = .ok (.goto 4, 3) := by decide +kernel
theorem dL_isPlaceSo_181 : decode cL_isPlaceSo 181 = .ok (.iconst 0, 1) := by decide +kernel
theorem dL_isPlaceSo_182 : decode cL_isPlaceSo 182 = .ok (.istore 5, 2) := by decide +kernel
theorem dL_isPlaceSo_184 : decode cL_isPlaceSo 184 = .ok (.iinc 6 1, 3) := by decide +kernel
theorem dL_isPlaceSo_187 : decode cL_isPlaceSo 187 = .ok (.goto (-61), 3) := by decide +kernel
theorem dL_isPlaceSo_190 : decode cL_isPlaceSo 190 = .ok (.iconst 1, 1) := by decide +kernel
theorem dL_isPlaceSo_191 : decode cL_isPlaceSo 191 = .ok (.istore 6, 2) := by decide +kernel
theorem dL_isPlaceSo_193 : decode cL_isPlaceSo 193 = .ok (.iload 6, 2) := by decide +kernel
theorem dL_isPlaceSo_195 : decode cL_isPlaceSo 195 = .ok (.iload_n 1, 1) := by decide +kernel
theorem dL_isPlaceSo_196 : decode cL_isPlaceSo 196 = .ok (.if_icmp .gt 89, 3) := by decide +kernel
theorem dL_isPlaceSo_199 : decode cL_isPlaceSo 199 = .ok (.iload 5, 2) := by decide +kernel
theorem dL_isPlaceSo_201 : decode cL_isPlaceSo 201 = .ok (.ifCond .eq 84, 3) := by decide +kernel
theorem dL_isPlaceSo_204 : decode cL_isPlaceSo 204 = .ok (.aload_n 0, 1) := by decide +kernel
theorem dL_isPlaceSo_205 : decode cL_isPlaceSo 205 = .ok (.iload 6, 2) := by decide +kernel
theorem dL_isPlaceSo_207 : decode cL_isPlaceSo 207 = .ok (.invokevirtual 42, 3) := by decide +kernel
theorem dL_isPlaceSo_210 : decode cL_isPlaceSo 210 = .ok (.aload_n 0, 1) := by decide +kernel
theorem dL_isPlaceSo_211 : decode cL_isPlaceSo 211 = .ok (.iload 6, 2) := by decide +kernel
theorem dL_isPlaceSo_213 : decode cL_isPlaceSo 213 = .ok (.iconst 1, 1) := by decide +kernel
theorem dL_isPlaceSo_214 : decode cL_isPlaceSo 214 = .ok (.isub, 1) := by decide +kernel
theorem dL_isPlaceSo_215 : decode cL_isPlaceSo 215 = .ok (.invokevirtual 42, 3) := by decide +kernel
theorem dL_isPlaceSo_218 : decode cL_isPlaceSo 218 = .ok (.isub, 1) := by decide +kernel
theorem dL_isPlaceSo_219 : decode cL_isPlaceSo 219 = .ok (.istore 7, 2) := by decide +kernel
theorem dL_isPlaceSo_221 : decode cL_isPlaceSo 221 = .ok (.iload_n 3, 1) := by decide +kernel
theorem dL_isPlaceSo_222 : decode cL_isPlaceSo 222 = .ok (.iload 6, 2) := by decide +kernel
theorem dL_isPlaceSo_224 : decode cL_isPlaceSo 224 = .ok (.iconst 1, 1) := by decide +kernel
theorem dL_isPlaceSo_225 : decode cL_isPlaceSo 225 = .ok (.if_icmp .le 14, 3) := by decide +kernel
theorem dL_isPlaceSo_228 : decode cL_isPlaceSo 228 = .ok (.iload 7, 2) := by decide +kernel
theorem dL_isPlaceSo_230 : decode cL_isPlaceSo 230 = .ok (.iload 4, 2) := by decide +kernel
theorem dL_isPlaceSo_232 : decode cL_isPlaceSo 232 = .ok (.if_icmp .eq 7, 3) := by decide +kernel
theorem dL_isPlaceSo_235 : decode cL_isPlaceSo 235 = .ok (.iconst 1, 1) := by decide +kernel
theorem dL_isPlaceSo_236 : decode cL_isPlaceSo 236 = .ok (.goto 4, 3) := by decide +kernel
theorem dL_isPlaceSo_239 : decode cL_isPlaceSo 239 = .ok (.iconst 0, 1) := by decide +kernel
theorem dL_isPlaceSo_240 : decode cL_isPlaceSo 240 = .ok (.iadd, 1) := by decide +kernel
theorem dL_isPlaceSo_241 : decode cL_isPlaceSo 241 = .ok (.istore_n 3, 1) := by decide +kernel
theorem dL_isPlaceSo_242 : decode cL_isPlaceSo 242 = .ok (.iload 7, 2) := by decide +kernel
theorem dL_isPlaceSo_244 : decode cL_isPlaceSo 244 = .ok (.istore 4, 2) := by decide +kernel
theorem dL_isPlaceSo_246 : decode cL_isPlaceSo 246 = .ok (.iload 7, 2) := by decide +kernel
theorem dL_isPlaceSo_248 : decode cL_isPlaceSo 248 = .ok (.iconst 1, 1) := by decide +kernel
theorem dL_isPlaceSo_249 : decode cL_isPlaceSo 249 = .ok (.if_icmp .eq 23, 3) := by decide +kernel
theorem dL_isPlaceSo_252 : decode cL_isPlaceSo 252 = .ok (.iload 7, 2) := by decide +kernel
theorem dL_isPlaceSo_254 : decode cL_isPlaceSo 254 = .ok (.iconst (-1), 1) := by decide +kernel
theorem dL_isPlaceSo_255 : decode cL_isPlaceSo 255 = .ok (.if_icmp .eq 17, 3) := by decide +kernel
theorem dL_isPlaceSo_258 : decode cL_isPlaceSo 258 = .ok (.iload 7, 2) := by decide +kernel
theorem dL_isPlaceSo_260 : decode cL_isPlaceSo 260 = .ok (.bipush 10, 2) := by decide +kernel
theorem dL_isPlaceSo_262 : decode cL_isPlaceSo 262 = .ok (.if_icmp .eq 10, 3) := by decide +kernel
theorem dL_isPlaceSo_265 : decode cL_isPlaceSo 265 = .ok (.iload 7, 2) := by decide +kernel
theorem dL_isPlaceSo_267 : decode cL_isPlaceSo 267 = .ok (.bipush (-10), 2) := by decide +kernel
theorem dL_isPlaceSo_269 : decode cL_isPlaceSo 269 = .ok (.if_icmp .ne 7, 3) := by decide +kernel
theorem dL_isPlaceSo_272 : decode cL_isPlaceSo 272 = .ok (.iconst 1, 1) := by decide +kernel
theorem dL_isPlaceSo_273 : decode cL_isPlaceSo 273 = .ok (.goto 4, 3) := by decide +kernel
theorem dL_isPlaceSo_276 : decode cL_isPlaceSo 276 = .ok (.iconst 0, 1) := by decide +kernel
theorem dL_isPlaceSo_277 : decode cL_isPlaceSo 277 = .ok (.istore 5, 2) := by decide +kernel
theorem dL_isPlaceSo_279 : decode cL_isPlaceSo 279 = .ok (.iinc 6 1, 3) := by decide +kernel
theorem dL_isPlaceSo_282 : decode cL_isPlaceSo 282 = .ok (.goto (-89), 3) := by decide +kernel
theorem dL_isPlaceSo_285 : decode cL_isPlaceSo 285 = .ok (.iload 5, 2) := by decide +kernel
theorem dL_isPlaceSo_287 : decode cL_isPlaceSo 287 = .ok (.ifCond .eq 50, 3) := by decide +kernel
theorem dL_isPlaceSo_290 : decode cL_isPlaceSo 290 = .ok (.aload_n 0, 1) := by decide +kernel
theorem dL_isPlaceSo_291 : decode cL_isPlaceSo 291 = .ok (.invokevirtual 74, 3) := by decide +kernel
theorem dL_isPlaceSo_294 : decode cL_isPlaceSo 294 = .ok (.iload_n 3, 1) := by decide +kernel
theorem dL_isPlaceSo_295 : decode cL_isPlaceSo 295 = .ok (.if_icmp .ne 42, 3) := by decide +kernel
theorem dL_isPlaceSo_298 : decode cL_isPlaceSo 298 = .ok (.aload_n 0, 1) := by decide +kernel
theorem dL_isPlaceSo_299 : decode cL_isPlaceSo 299 = .ok (.iconst 4, 1) := by decide +kernel
theorem dL_isPlaceSo_300 : decode cL_isPlaceSo 300 = .ok (.invokevirtual 85, 3) := by decide +kernel
theorem dL_isPlaceSo_303 : decode cL_isPlaceSo 303 = .ok (.iload_n 1, 1) := by decide +kernel
theorem dL_isPlaceSo_304 : decode cL_isPlaceSo 304 = .ok (.iconst 4, 1) := by decide +kernel
theorem dL_isPlaceSo_305 : decode cL_isPlaceSo 305 = .ok (.if_icmp .gt 7, 3) := by decide +kernel
theorem dL_isPlaceSo_308 : decode cL_isPlaceSo 308 = .ok (.iload_n 1, 1) := by decide +kernel
theorem dL_isPlaceSo_309 : decode cL_isPlaceSo 309 = .ok (.goto 4, 3) := by decide +kernel
theorem dL_isPlaceSo_312 : decode cL_isPlaceSo 312 = .ok (.iconst (-1), 1) := by decide +kernel
theorem dL_isPlaceSo_313 : decode cL_isPlaceSo 313 = .ok (.if_icmp .ne 24, 3) := by decide +kernel
theorem dL_isPlaceSo_316 : decode cL_isPlaceSo 316 = .ok (.aload_n 0, 1) := by decide +kernel
theorem dL_isPlaceSo_317 : decode cL_isPlaceSo 317 = .ok (.iconst 0, 1) := by decide +kernel
theorem dL_isPlaceSo_318 : decode cL_isPlaceSo 318 = .ok (.invokevirtual 85, 3) := by decide +kernel
theorem dL_isPlaceSo_321 : decode cL_isPlaceSo 321 = .ok (.iload_n 1, 1) := by decide +kernel
theorem dL_isPlaceSo_322 : decode cL_isPlaceSo 322 = .ok (.ifCond .ne 7, 3) := by decide +kernel
theorem dL_isPlaceSo_325 : decode cL_isPlaceSo 325 = .ok (.iconst 0, 1) := by decide +kernel
theorem dL_isPlaceSo_326 : decode cL_isPlaceSo 326 = .ok (.goto 4, 3) := by decide +kernel
theorem dL_isPlaceSo_329 : decode cL_isPlaceSo 329 = .ok (.iconst (-1), 1) := by decide +kernel
theorem dL_isPlaceSo_330 : decode cL_isPlaceSo 330 = .ok (.if_icmp .ne 7, 3) := by decide +kernel
theorem dL_isPlaceSo_333 : decode cL_isPlaceSo 333 = .ok (.iconst 1, 1) := by decide +kernel
theorem dL_isPlaceSo_334 : decode cL_isPlaceSo 334 = .ok (.goto 4, 3) := by decide +kernel
theorem dL_isPlaceSo_337 : decode cL_isPlaceSo 337 = .ok (.iconst 0, 1) := by decide +kernel
theorem dL_isPlaceSo_338 : decode cL_isPlaceSo 338 = .ok (.ireturn, 1) := by decide +kernel
theorem dL_areGoalsSo_0 : decode cL_areGoalsSo 0 = .ok (.iconst 0, 1) := by decide +kernel
theorem dL_areGoalsSo_1 : decode cL_areGoalsSo 1 = .ok (.istore_n 3, 1) := by decide +kernel
theorem dL_areGoalsSo_2 : decode cL_areGoalsSo 2 = .ok (.aload_n 0, 1) := by decide +kernel
theorem dL_areGoalsSo_3 : decode cL_areGoalsSo 3 = .ok (.invokevirtual 68, 3) := by decide +kernel
theorem dL_areGoalsSo_6 : decode cL_areGoalsSo 6 = .ok (.aload_n 0, 1) := by decide +kernel
theorem dL_areGoalsSo_7 : decode cL_areGoalsSo 7 = .ok (.invokevirtual 65, 3) := by decide +kernel
theorem dL_areGoalsSo_10 : decode cL_areGoalsSo 10 = .ok (.iadd, 1) := by decide +kernel
theorem dL_areGoalsSo_11 : decode cL_areGoalsSo 11 = .ok (.istore 4, 2) := by decide +kernel
theorem dL_areGoalsSo_13 : decode cL_areGoalsSo 13 = .ok (.aload_n 0, 1) := by decide +kernel
theorem dL_areGoalsSo_14 : decode cL_areGoalsSo 14 = .ok (.aload_n 0, 1) := by decide +kernel
theorem dL_areGoalsSo_15 : decode cL_areGoalsSo 15 = .ok (.invokevirtual 65, 3) := by decide +kernel
theorem dL_areGoalsSo_18 : decode cL_areGoalsSo 18 = .ok (.invokevirtual 42, 3) := by decide +kernel
theorem dL_areGoalsSo_21 : decode cL_areGoalsSo 21 = .ok (.istore 5, 2) := by decide +kernel
theorem dL_areGoalsSo_23 : decode cL_areGoalsSo 23 = .ok (.iconst 1, 1) := by decide +kernel
theorem dL_areGoalsSo_24 : decode cL_areGoalsSo 24 = .ok (.istore 6, 2) := by decide +kernel
theorem dL_areGoalsSo_26 : decode cL_areGoalsSo 26 = .ok (.iconst 0, 1) := by decide +kernel
theorem dL_areGoalsSo_27 : decode cL_areGoalsSo 27 = .ok (.istore 7, 2) := by decide +kernel
theorem dL_areGoalsSo_29 : decode cL_areGoalsSo 29 = .ok (.iload 7, 2) := by decide +kernel
theorem dL_areGoalsSo_31 : decode cL_areGoalsSo 31 = .ok (.iload_n 1, 1) := by decide +kernel
theorem dL_areGoalsSo_32 : decode cL_areGoalsSo 32 = .ok (.iload_n 2, 1) := by decide +kernel
theorem dL_areGoalsSo_33 : decode cL_areGoalsSo 33 = .ok (.imul, 1) := by decide +kernel
theorem dL_areGoalsSo_34 : decode cL_areGoalsSo 34 = .ok (.if_icmp .ge 219, 3) := by decide +kernel
theorem dL_areGoalsSo_37 : decode cL_areGoalsSo 37 = .ok (.iload 6, 2) := by decide +kernel
theorem dL_areGoalsSo_39 : decode cL_areGoalsSo 39 = .ok (.ifCond .eq 214, 3) := by decide +kernel
theorem dL_areGoalsSo_42 : decode cL_areGoalsSo 42 = .ok (.iload 7, 2) := by decide +kernel
theorem dL_areGoalsSo_44 : decode cL_areGoalsSo 44 = .ok (.iload_n 1, 1) := by decide +kernel
theorem dL_areGoalsSo_45 : decode cL_areGoalsSo 45 = .ok (.irem, 1) := by decide +kernel
theorem dL_areGoalsSo_46 : decode cL_areGoalsSo 46 = .ok (.istore 8, 2) := by decide +kernel
theorem dL_areGoalsSo_48 : decode cL_areGoalsSo 48 = .ok (.iload 7, 2) := by decide +kernel
theorem dL_areGoalsSo_50 : decode cL_areGoalsSo 50 = .ok (.iload_n 1, 1) := by decide +kernel
theorem dL_areGoalsSo_51 : decode cL_areGoalsSo 51 = .ok (.idiv, 1) := by decide +kernel
theorem dL_areGoalsSo_52 : decode cL_areGoalsSo 52 = .ok (.istore 9, 2) := by decide +kernel
theorem dL_areGoalsSo_54 : decode cL_areGoalsSo 54 = .ok (.aload_n 0, 1) := by decide +kernel
theorem dL_areGoalsSo_55 : decode cL_areGoalsSo 55 = .ok (.iload 8, 2) := by decide +kernel
theorem dL_areGoalsSo_57 : decode cL_areGoalsSo 57 = .ok (.iload 9, 2) := by decide +kernel
theorem dL_areGoalsSo_59 : decode cL_areGoalsSo 59 = .ok (.invokevirtual 88, 3) := by decide +kernel
theorem dL_areGoalsSo_62 : decode cL_areGoalsSo 62 = .ok (.istore 10, 2) := by decide +kernel
theorem dL_areGoalsSo_64 : decode cL_areGoalsSo 64 = .ok (.aload_n 0, 1) := by decide +kernel
theorem dL_areGoalsSo_65 : decode cL_areGoalsSo 65 = .ok (.iload 8, 2) := by decide +kernel
theorem dL_areGoalsSo_67 : decode cL_areGoalsSo 67 = .ok (.iload 9, 2) := by decide +kernel
theorem dL_areGoalsSo_69 : decode cL_areGoalsSo 69 = .ok (.invokevirtual 91, 3) := by decide +kernel
theorem dL_areGoalsSo_72 : decode cL_areGoalsSo 72 = .ok (.istore 11, 2) := by decide +kernel
theorem dL_areGoalsSo_74 : decode cL_areGoalsSo 74 = .ok (.iload 8, 2) := by decide +kernel
theorem dL_areGoalsSo_76 : decode cL_areGoalsSo 76 = .ok (.iload 5, 2) := by decide +kernel
theorem dL_areGoalsSo_78 : decode cL_areGoalsSo 78 = .ok (.bipush 10, 2) := by decide +kernel
theorem dL_areGoalsSo_80 : decode cL_areGoalsSo 80 = .ok (.idiv, 1) := by decide +kernel
theorem dL_areGoalsSo_81 : decode cL_areGoalsSo 81 = .ok (.isub, 1) := by decide +kernel
theorem dL_areGoalsSo_82 : decode cL_areGoalsSo 82 = .ok (.istore 12, 2) := by decide +kernel
theorem dL_areGoalsSo_84 : decode cL_areGoalsSo 84 = .ok (.iload 9, 2) := by decide +kernel
theorem dL_areGoalsSo_86 : decode cL_areGoalsSo 86 = .ok (.iload 5, 2) := by decide +kernel
theorem dL_areGoalsSo_88 : decode cL_areGoalsSo 88 = .ok (.bipush 10, 2) := by decide +kernel
theorem dL_areGoalsSo_90 : decode cL_areGoalsSo 90 = .ok (.irem, 1) := by decide +kernel
theorem dL_areGoalsSo_91 : decode cL_areGoalsSo 91 = .ok (.isub, 1) := by decide +kernel
theorem dL_areGoalsSo_92 : decode cL_areGoalsSo 92 = .ok (.istore 13, 2) := by decide +kernel
theorem dL_areGoalsSo_94 : decode cL_areGoalsSo 94 = .ok (.iload 12, 2) := by decide +kernel
theorem dL_areGoalsSo_96 : decode cL_areGoalsSo 96 = .ok (.ifCond .ge 9, 3) := by decide +kernel
theorem dL_areGoalsSo_99 : decode cL_areGoalsSo 99 = .ok (.iload 12, 2) := by decide +kernel
theorem dL_areGoalsSo_101 : decode cL_areGoalsSo 101 = .ok (.ineg, 1) := by decide +kernel
theorem dL_areGoalsSo_102 : decode cL_areGoalsSo 102 = .ok (.goto 5, 3) := by decide +kernel
theorem dL_areGoalsSo_105 : decode cL_areGoalsSo 105 = .ok (.iload 12, 2) := by decide +kernel
theorem dL_areGoalsSo_107 : decode cL_areGoalsSo 107 = .ok (.iload 13, 2) := by decide +kernel
theorem dL_areGoalsSo_109 : decode cL_areGoalsSo 109 = .ok (.ifCond .ge 9, 3) := by decide +kernel
theorem dL_areGoalsSo_112 : decode cL_areGoalsSo 112 = .ok (.iload 13, 2) := by decide +kernel
theorem dL_areGoalsSo_114 : decode cL_areGoalsSo 114 = .ok (.ineg, 1) := by decide +kernel
theorem dL_areGoalsSo_115 : decode cL_areGoalsSo 115 = .ok (.goto 5, 3) := by decide +kernel
theorem dL_areGoalsSo_118 : decode cL_areGoalsSo 118 = .ok (.iload 13, 2) := by decide +kernel
theorem dL_areGoalsSo_120 : decode cL_areGoalsSo 120 = .ok (.iadd, 1) := by decide +kernel
theorem dL_areGoalsSo_121 : decode cL_areGoalsSo 121 = .ok (.istore 14, 2) := by decide +kernel
theorem dL_areGoalsSo_123 : decode cL_areGoalsSo 123 = .ok (.iload_n 3, 1) := by decide +kernel
theorem dL_areGoalsSo_124 : decode cL_areGoalsSo 124 = .ok (.iload 11, 2) := by decide +kernel
theorem dL_areGoalsSo_126 : decode cL_areGoalsSo 126 = .ok (.ifCond .le 7, 3) := by decide +kernel
theorem dL_areGoalsSo_129 : decode cL_areGoalsSo 129 = .ok (.iconst 1, 1) := by decide +kernel
theorem dL_areGoalsSo_130 : decode cL_areGoalsSo 130 = .ok (.goto 4, 3) := by decide +kernel
theorem dL_areGoalsSo_133 : decode cL_areGoalsSo 133 = .ok (.iconst 0, 1) := by decide +kernel
theorem dL_areGoalsSo_134 : decode cL_areGoalsSo 134 = .ok (.iadd, 1) := by decide +kernel
theorem dL_areGoalsSo_135 : decode cL_areGoalsSo 135 = .ok (.istore_n 3, 1) := by decide +kernel
theorem dL_areGoalsSo_136 : decode cL_areGoalsSo 136 = .ok (.iload 10, 2) := by decide +kernel
theorem dL_areGoalsSo_138 : decode cL_areGoalsSo 138 = .ok (.iconst (-1), 1) := by decide +kernel
theorem dL_areGoalsSo_139 : decode cL_areGoalsSo 139 = .ok (.if_icmp .lt 105, 3) := by decide +kernel
theorem dL_areGoalsSo_142 : decode cL_areGoalsSo 142 = .ok (.iload 11, 2) := by decide +kernel
theorem dL_areGoalsSo_144 : decode cL_areGoalsSo 144 = .ok (.ifCond .le 7, 3) := by decide +kernel
theorem dL_areGoalsSo_147 : decode cL_areGoalsSo 147 = .ok (.iconst 1, 1) := by decide +kernel
theorem dL_areGoalsSo_148 : decode cL_areGoalsSo 148 = .ok (.goto 4, 3) := by decide +kernel
theorem dL_areGoalsSo_151 : decode cL_areGoalsSo 151 = .ok (.iconst 0, 1) := by decide +kernel
theorem dL_areGoalsSo_152 : decode cL_areGoalsSo 152 = .ok (.iload 10, 2) := by decide +kernel
theorem dL_areGoalsSo_154 : decode cL_areGoalsSo 154 = .ok (.ifCond .lt 14, 3) := by decide +kernel
theorem dL_areGoalsSo_157 : decode cL_areGoalsSo 157 = .ok (.iload 10, 2) := by decide +kernel
theorem dL_areGoalsSo_159 : decode cL_areGoalsSo 159 = .ok (.iload 4, 2) := by decide +kernel
theorem dL_areGoalsSo_161 : decode cL_areGoalsSo 161 = .ok (.if_icmp .gt 7, 3) := by decide +kernel
theorem dL_areGoalsSo_164 : decode cL_areGoalsSo 164 = .ok (.iconst 1, 1) := by decide +kernel
theorem dL_areGoalsSo_165 : decode cL_areGoalsSo 165 = .ok (.goto 4, 3) := by decide +kernel
theorem dL_areGoalsSo_168 : decode cL_areGoalsSo 168 = .ok (.iconst 0, 1) := by decide +kernel
theorem dL_areGoalsSo_169 : decode cL_areGoalsSo 169 = .ok (.if_icmp .ne 75, 3) := by decide +kernel
theorem dL_areGoalsSo_172 : decode cL_areGoalsSo 172 = .ok (.aload_n 0, 1) := by decide +kernel
theorem dL_areGoalsSo_173 : decode cL_areGoalsSo 173 = .ok (.iload 8, 2) := by decide +kernel
theorem dL_areGoalsSo_175 : decode cL_areGoalsSo 175 = .ok (.iload 9, 2) := by decide +kernel
theorem dL_areGoalsSo_177 : decode cL_areGoalsSo 177 = .ok (.invokevirtual 94, 3) := by decide +kernel
theorem dL_areGoalsSo_180 : decode cL_areGoalsSo 180 = .ok (.iload 10, 2) := by decide +kernel
theorem dL_areGoalsSo_182 : decode cL_areGoalsSo 182 = .ok (.ifCond .ge 7, 3) := by decide +kernel
theorem dL_areGoalsSo_185 : decode cL_areGoalsSo 185 = .ok (.iconst (-1), 1) := by decide +kernel
theorem dL_areGoalsSo_186 : decode cL_areGoalsSo 186 = .ok (.goto 19, 3) := by decide +kernel
theorem dL_areGoalsSo_189 : decode cL_areGoalsSo 189 = .ok (.iload 10, 2) := by decide +kernel
theorem dL_areGoalsSo_191 : decode cL_areGoalsSo 191 = .ok (.iload 4, 2) := by decide +kernel
theorem dL_areGoalsSo_193 : decode cL_areGoalsSo 193 = .ok (.if_icmp .le 11, 3) := by decide +kernel
theorem dL_areGoalsSo_196 : decode cL_areGoalsSo 196 = .ok (.iload 10, 2) := by decide +kernel
theorem dL_areGoalsSo_198 : decode cL_areGoalsSo 198 = .ok (.iload 4, 2) := by decide +kernel
theorem dL_areGoalsSo_200 : decode cL_areGoalsSo 200 = .ok (.isub, 1) := by decide +kernel
theorem dL_areGoalsSo_201 : decode cL_areGoalsSo 201 = .ok (.goto 4, 3) := by decide +kernel
theorem dL_areGoalsSo_204 : decode cL_areGoalsSo 204 = .ok (.iconst 0, 1) := by decide +kernel
theorem dL_areGoalsSo_205 : decode cL_areGoalsSo 205 = .ok (.if_icmp .ne 39, 3) := by decide +kernel
theorem dL_areGoalsSo_208 : decode cL_areGoalsSo 208 = .ok (.iload 10, 2) := by decide +kernel
theorem dL_areGoalsSo_210 : decode cL_areGoalsSo 210 = .ok (.ifCond .lt 20, 3) := by decide +kernel
theorem dL_areGoalsSo_213 : decode cL_areGoalsSo 213 = .ok (.iload 10, 2) := by decide +kernel
theorem dL_areGoalsSo_215 : decode cL_areGoalsSo 215 = .ok (.iload 14, 2) := by decide +kernel
theorem dL_areGoalsSo_217 : decode cL_areGoalsSo 217 = .ok (.if_icmp .lt 27, 3) := by decide +kernel
theorem dL_areGoalsSo_220 : decode cL_areGoalsSo 220 = .ok (.iload 10, 2) := by decide +kernel
theorem dL_areGoalsSo_222 : decode cL_areGoalsSo 222 = .ok (.iload 14, 2) := by decide +kernel
theorem dL_areGoalsSo_224 : decode cL_areGoalsSo 224 = .ok (.isub, 1) := by decide +kernel
theorem dL_areGoalsSo_225 : decode cL_areGoalsSo 225 = .ok (.iconst 2, 1) := by decide +kernel
theorem dL_areGoalsSo_226 : decode cL_areGoalsSo 226 = .ok (.irem, 1) := by decide +kernel
theorem dL_areGoalsSo_227 : decode cL_areGoalsSo 227 = .ok (.ifCond .ne 17, 3) := by decide +kernel
theorem dL_areGoalsSo_230 : decode cL_areGoalsSo 230 = .ok (.iload 14, 2) := by decide +kernel
theorem dL_areGoalsSo_232 : decode cL_areGoalsSo 232 = .ok (.ifCond .gt 8, 3) := by decide +kernel
theorem dL_areGoalsSo_235 : decode cL_areGoalsSo 235 = .ok (.iload 10, 2) := by decide +kernel
theorem dL_areGoalsSo_237 : decode cL_areGoalsSo 237 = .ok (.ifCond .ne 7, 3) := by decide +kernel
theorem dL_areGoalsSo_240 : decode cL_areGoalsSo 240 = .ok (.iconst 1, 1) := by decide +kernel
theorem dL_areGoalsSo_241 : decode cL_areGoalsSo 241 = .ok (.goto 4, 3) := by decide +kernel
theorem dL_areGoalsSo_244 : decode cL_areGoalsSo 244 = .ok (.iconst 0, 1) := by decide +kernel
theorem dL_areGoalsSo_245 : decode cL_areGoalsSo 245 = .ok (.istore 6, 2) := by decide +kernel
theorem dL_areGoalsSo_247 : decode cL_areGoalsSo 247 = .ok (.iinc 7 1, 3) := by decide +kernel
theorem dL_areGoalsSo_250 : decode cL_areGoalsSo 250 = .ok (.goto (-221), 3) := by decide +kernel
theorem dL_areGoalsSo_253 : decode cL_areGoalsSo 253 = .ok (.iload 6, 2) := by decide +kernel
theorem dL_areGoalsSo_255 : decode cL_areGoalsSo 255 = .ok (.ifCond .eq 49, 3) := by decide +kernel
theorem dL_areGoalsSo_258 : decode cL_areGoalsSo 258 = .ok (.aload_n 0, 1) := by decide +kernel
theorem dL_areGoalsSo_259 : decode cL_areGoalsSo 259 = .ok (.invokevirtual 77, 3) := by decide +kernel
theorem dL_areGoalsSo_262 : decode cL_areGoalsSo 262 = .ok (.iload_n 3, 1) := by decide +kernel
theorem dL_areGoalsSo_263 : decode cL_areGoalsSo 263 = .ok (.if_icmp .ne 41, 3) := by decide +kernel
theorem dL_areGoalsSo_266 : decode cL_areGoalsSo 266 = .ok (.aload_n 0, 1) := by decide +kernel
theorem dL_areGoalsSo_267 : decode cL_areGoalsSo 267 = .ok (.aload_n 0, 1) := by decide +kernel
theorem dL_areGoalsSo_268 : decode cL_areGoalsSo 268 = .ok (.invokevirtual 55, 3) := by decide +kernel
theorem dL_areGoalsSo_271 : decode cL_areGoalsSo 271 = .ok (.aload_n 0, 1) := by decide +kernel
theorem dL_areGoalsSo_272 : decode cL_areGoalsSo 272 = .ok (.invokevirtual 59, 3) := by decide +kernel
theorem dL_areGoalsSo_275 : decode cL_areGoalsSo 275 = .ok (.invokevirtual 91, 3) := by decide +kernel
theorem dL_areGoalsSo_278 : decode cL_areGoalsSo 278 = .ok (.ifCond .le 26, 3) := by decide +kernel
theorem dL_areGoalsSo_281 : decode cL_areGoalsSo 281 = .ok (.aload_n 0, 1) := by decide +kernel
theorem dL_areGoalsSo_282 : decode cL_areGoalsSo 282 = .ok (.aload_n 0, 1) := by decide +kernel
theorem dL_areGoalsSo_283 : decode cL_areGoalsSo 283 = .ok (.invokevirtual 55, 3) := by decide +kernel
theorem dL_areGoalsSo_286 : decode cL_areGoalsSo 286 = .ok (.aload_n 0, 1) := by decide +kernel
theorem dL_areGoalsSo_287 : decode cL_areGoalsSo 287 = .ok (.invokevirtual 59, 3) := by decide +kernel
theorem dL_areGoalsSo_290 : decode cL_areGoalsSo 290 = .ok (.invokevirtual 88, 3) := by decide +kernel
theorem dL_areGoalsSo_293 : decode cL_areGoalsSo 293 = .ok (.aload_n 0, 1) := by decide +kernel
theorem dL_areGoalsSo_294 : decode cL_areGoalsSo 294 = .ok (.invokevirtual 65, 3) := by decide +kernel
theorem dL_areGoalsSo_297 : decode cL_areGoalsSo 297 = .ok (.if_icmp .gt 7, 3) := by decide +kernel
theorem dL_areGoalsSo_300 : decode cL_areGoalsSo 300 = .ok (.iconst 1, 1) := by decide +kernel
theorem dL_areGoalsSo_301 : decode cL_areGoalsSo 301 = .ok (.goto 4, 3) := by decide +kernel
theorem dL_areGoalsSo_304 : decode cL_areGoalsSo 304 = .ok (.iconst 0, 1) := by decide +kernel
theorem dL_areGoalsSo_305 : decode cL_areGoalsSo 305 = .ok (.ireturn, 1) := by decide +kernel
theorem dL_isReturnedSo_0 : decode cL_isReturnedSo 0 = .ok (.aload_n 0, 1) := by decide +kernel
theorem dL_isReturnedSo_1 : decode cL_isReturnedSo 1 = .ok (.invokevirtual 55, 3) := by decide +kernel
theorem dL_isReturnedSo_4 : decode cL_isReturnedSo 4 = .ok (.istore_n 3, 1) := by decide +kernel
theorem dL_isReturnedSo_5 : decode cL_isReturnedSo 5 = .ok (.aload_n 0, 1) := by decide +kernel
theorem dL_isReturnedSo_6 : decode cL_isReturnedSo 6 = .ok (.invokevirtual 59, 3) := by decide +kernel
theorem dL_isReturnedSo_9 : decode cL_isReturnedSo 9 = .ok (.istore 4, 2) := by decide +kernel
theorem dL_isReturnedSo_11 : decode cL_isReturnedSo 11 = .ok (.aload_n 0, 1) := by decide +kernel
theorem dL_isReturnedSo_12 : decode cL_isReturnedSo 12 = .ok (.invokevirtual 65, 3) := by decide +kernel
theorem dL_isReturnedSo_15 : decode cL_isReturnedSo 15 = .ok (.istore 5, 2) := by decide +kernel
theorem dL_isReturnedSo_17 : decode cL_isReturnedSo 17 = .ok (.aload_n 0, 1) := by decide +kernel
theorem dL_isReturnedSo_18 : decode cL_isReturnedSo 18 = .ok (.invokevirtual 62, 3) := by decide +kernel
theorem dL_isReturnedSo_21 : decode cL_isReturnedSo 21 = .ok (.istore 6, 2) := by decide +kernel
theorem dL_isReturnedSo_23 : decode cL_isReturnedSo 23 = .ok (.aload_n 0, 1) := by decide +kernel
theorem dL_isReturnedSo_24 : decode cL_isReturnedSo 24 = .ok (.invokevirtual 71, 3) := by decide +kernel
theorem dL_isReturnedSo_27 : decode cL_isReturnedSo 27 = .ok (.istore 7, 2) := by decide +kernel
theorem dL_isReturnedSo_29 : decode cL_isReturnedSo 29 = .ok (.aload_n 0, 1) := by decide +kernel
theorem dL_isReturnedSo_30 : decode cL_isReturnedSo 30 = .ok (.iconst 0, 1) := by decide +kernel
theorem dL_isReturnedSo_31 : decode cL_isReturnedSo 31 = .ok (.iload_n 2, 1) := by decide +kernel
theorem dL_isReturnedSo_32 : decode cL_isReturnedSo 32 = .ok (.iconst 0, 1) := by decide +kernel
theorem dL_isReturnedSo_33 : decode cL_isReturnedSo 33 = .ok (.invokestatic 51, 3) := by decide +kernel
theorem dL_isReturnedSo_36 : decode cL_isReturnedSo 36 = .ok (.istore 8, 2) := by decide +kernel
theorem dL_isReturnedSo_38 : decode cL_isReturnedSo 38 = .ok (.aload_n 1, 1) := by decide +kernel
theorem dL_isReturnedSo_39 : decode cL_isReturnedSo 39 = .ok (.iconst 0, 1) := by decide +kernel
theorem dL_isReturnedSo_40 : decode cL_isReturnedSo 40 = .ok (.iload_n 2, 1) := by decide +kernel
theorem dL_isReturnedSo_41 : decode cL_isReturnedSo 41 = .ok (.iconst 0, 1) := by decide +kernel
theorem dL_isReturnedSo_42 : decode cL_isReturnedSo 42 = .ok (.invokestatic 51, 3) := by decide +kernel
theorem dL_isReturnedSo_45 : decode cL_isReturnedSo 45 = .ok (.iload 8, 2) := by decide +kernel
theorem dL_isReturnedSo_47 : decode cL_isReturnedSo 47 = .ok (.if_icmp .ne 7, 3) := by decide +kernel
theorem dL_isReturnedSo_50 : decode cL_isReturnedSo 50 = .ok (.iconst 1, 1) := by decide +kernel
theorem dL_isReturnedSo_51 : decode cL_isReturnedSo 51 = .ok (.goto 4, 3) := by decide +kernel
theorem dL_isReturnedSo_54 : decode cL_isReturnedSo 54 = .ok (.iconst 0, 1) := by decide +kernel
theorem dL_isReturnedSo_55 : decode cL_isReturnedSo 55 = .ok (.istore 9, 2) := by decide +kernel
theorem dL_isReturnedSo_57 : decode cL_isReturnedSo 57 = .ok (.iload 8, 2) := by decide +kernel
theorem dL_isReturnedSo_59 : decode cL_isReturnedSo 59 = .ok (.ldc 32, 2) := by decide +kernel
theorem dL_isReturnedSo_61 : decode cL_isReturnedSo 61 = .ok (.if_icmp .eq 72, 3) := by decide +kernel
theorem dL_isReturnedSo_64 : decode cL_isReturnedSo 64 = .ok (.iload 9, 2) := by decide +kernel
theorem dL_isReturnedSo_66 : decode cL_isReturnedSo 66 = .ok (.ifCond .eq 64, 3) := by decide +kernel
theorem dL_isReturnedSo_69 : decode cL_isReturnedSo 69 = .ok (.iload 8, 2) := by decide +kernel
theorem dL_isReturnedSo_71 : decode cL_isReturnedSo 71 = .ok (.iload 5, 2) := by decide +kernel
theorem dL_isReturnedSo_73 : decode cL_isReturnedSo 73 = .ok (.iconst 1, 1) := by decide +kernel
theorem dL_isReturnedSo_74 : decode cL_isReturnedSo 74 = .ok (.iadd, 1) := by decide +kernel
theorem dL_isReturnedSo_75 : decode cL_isReturnedSo 75 = .ok (.if_icmp .eq 12, 3) := by decide +kernel
theorem dL_isReturnedSo_78 : decode cL_isReturnedSo 78 = .ok (.iload 8, 2) := by decide +kernel
theorem dL_isReturnedSo_80 : decode cL_isReturnedSo 80 = .ok (.iload 5, 2) := by decide +kernel
theorem dL_isReturnedSo_82 : decode cL_isReturnedSo 82 = .ok (.iconst 1, 1) := by decide +kernel
theorem dL_isReturnedSo_83 : decode cL_isReturnedSo 83 = .ok (.isub, 1) := by decide +kernel
theorem dL_isReturnedSo_84 : decode cL_isReturnedSo 84 = .ok (.if_icmp .ne 46, 3) := by decide +kernel
theorem dL_isReturnedSo_87 : decode cL_isReturnedSo 87 = .ok (.aload_n 0, 1) := by decide +kernel
theorem dL_isReturnedSo_88 : decode cL_isReturnedSo 88 = .ok (.iload_n 2, 1) := by decide +kernel
theorem dL_isReturnedSo_89 : decode cL_isReturnedSo 89 = .ok (.iconst 2, 1) := by decide +kernel
theorem dL_isReturnedSo_90 : decode cL_isReturnedSo 90 = .ok (.iadd, 1) := by decide +kernel
theorem dL_isReturnedSo_91 : decode cL_isReturnedSo 91 = .ok (.iconst 4, 1) := by decide +kernel
theorem dL_isReturnedSo_92 : decode cL_isReturnedSo 92 = .ok (.irem, 1) := by decide +kernel
theorem dL_isReturnedSo_93 : decode cL_isReturnedSo 93 = .ok (.invokevirtual 8, 3) := by decide +kernel
theorem dL_isReturnedSo_96 : decode cL_isReturnedSo 96 = .ok (.iload 5, 2) := by decide +kernel
theorem dL_isReturnedSo_98 : decode cL_isReturnedSo 98 = .ok (.if_icmp .ne 32, 3) := by decide +kernel
theorem dL_isReturnedSo_101 : decode cL_isReturnedSo 101 = .ok (.aload_n 1, 1) := by decide +kernel
theorem dL_isReturnedSo_102 : decode cL_isReturnedSo 102 = .ok (.iload_n 2, 1) := by decide +kernel
theorem dL_isReturnedSo_103 : decode cL_isReturnedSo 103 = .ok (.iconst 2, 1) := by decide +kernel
theorem dL_isReturnedSo_104 : decode cL_isReturnedSo 104 = .ok (.iadd, 1) := by decide +kernel
theorem dL_isReturnedSo_105 : decode cL_isReturnedSo 105 = .ok (.iconst 4, 1) := by decide +kernel
theorem dL_isReturnedSo_106 : decode cL_isReturnedSo 106 = .ok (.irem, 1) := by decide +kernel
theorem dL_isReturnedSo_107 : decode cL_isReturnedSo 107 = .ok (.invokevirtual 8, 3) := by decide +kernel
theorem dL_isReturnedSo_110 : decode cL_isReturnedSo 110 = .ok (.iload 5, 2) := by decide +kernel
theorem dL_isReturnedSo_112 : decode cL_isReturnedSo 112 = .ok (.if_icmp .ne 18, 3) := by decide +kernel
theorem dL_isReturnedSo_115 : decode cL_isReturnedSo 115 = .ok (.aload_n 0, 1) := by decide +kernel
theorem dL_isReturnedSo_116 : decode cL_isReturnedSo 116 = .ok (.invokevirtual 71, 3) := by decide +kernel
theorem dL_isReturnedSo_119 : decode cL_isReturnedSo 119 = .ok (.iload 7, 2) := by decide +kernel
theorem dL_isReturnedSo_121 : decode cL_isReturnedSo 121 = .ok (.iconst 2, 1) := by decide +kernel
theorem dL_isReturnedSo_122 : decode cL_isReturnedSo 122 = .ok (.iadd, 1) := by decide +kernel
theorem dL_isReturnedSo_123 : decode cL_isReturnedSo 123 = .ok (.if_icmp .ne 7, 3) := by decide +kernel
theorem dL_isReturnedSo_126 : decode cL_isReturnedSo 126 = .ok (.iconst 1, 1) := by decide +kernel
theorem dL_isReturnedSo_127 : decode cL_isReturnedSo 127 = .ok (.goto 4, 3) := by decide +kernel
theorem dL_isReturnedSo_130 : decode cL_isReturnedSo 130 = .ok (.iconst 0, 1) := by decide +kernel
theorem dL_isReturnedSo_131 : decode cL_isReturnedSo 131 = .ok (.istore 9, 2) := by decide +kernel
theorem dL_isReturnedSo_133 : decode cL_isReturnedSo 133 = .ok (.iload 9, 2) := by decide +kernel
theorem dL_isReturnedSo_135 : decode cL_isReturnedSo 135 = .ok (.ifCond .eq 42, 3) := by decide +kernel
theorem dL_isReturnedSo_138 : decode cL_isReturnedSo 138 = .ok (.aload_n 0, 1) := by decide +kernel
theorem dL_isReturnedSo_139 : decode cL_isReturnedSo 139 = .ok (.invokevirtual 55, 3) := by decide +kernel
theorem dL_isReturnedSo_142 : decode cL_isReturnedSo 142 = .ok (.iload_n 3, 1) := by decide +kernel
theorem dL_isReturnedSo_143 : decode cL_isReturnedSo 143 = .ok (.if_icmp .ne 34, 3) := by decide +kernel
theorem dL_isReturnedSo_146 : decode cL_isReturnedSo 146 = .ok (.aload_n 0, 1) := by decide +kernel
theorem dL_isReturnedSo_147 : decode cL_isReturnedSo 147 = .ok (.invokevirtual 59, 3) := by decide +kernel
theorem dL_isReturnedSo_150 : decode cL_isReturnedSo 150 = .ok (.iload 4, 2) := by decide +kernel
theorem dL_isReturnedSo_152 : decode cL_isReturnedSo 152 = .ok (.if_icmp .ne 25, 3) := by decide +kernel
theorem dL_isReturnedSo_155 : decode cL_isReturnedSo 155 = .ok (.aload_n 0, 1) := by decide +kernel
theorem dL_isReturnedSo_156 : decode cL_isReturnedSo 156 = .ok (.invokevirtual 62, 3) := by decide +kernel
theorem dL_isReturnedSo_159 : decode cL_isReturnedSo 159 = .ok (.iload 6, 2) := by decide +kernel
theorem dL_isReturnedSo_161 : decode cL_isReturnedSo 161 = .ok (.if_icmp .ne 16, 3) := by decide +kernel
theorem dL_isReturnedSo_164 : decode cL_isReturnedSo 164 = .ok (.aload_n 0, 1) := by decide +kernel
theorem dL_isReturnedSo_165 : decode cL_isReturnedSo 165 = .ok (.invokevirtual 65, 3) := by decide +kernel
theorem dL_isReturnedSo_168 : decode cL_isReturnedSo 168 = .ok (.iload 5, 2) := by decide +kernel
theorem dL_isReturnedSo_170 : decode cL_isReturnedSo 170 = .ok (.if_icmp .ne 7, 3) := by decide +kernel
theorem dL_isReturnedSo_173 : decode cL_isReturnedSo 173 = .ok (.iconst 1, 1) := by decide +kernel
theorem dL_isReturnedSo_174 : decode cL_isReturnedSo 174 = .ok (.goto 4, 3) := by decide +kernel
theorem dL_isReturnedSo_177 : decode cL_isReturnedSo 177 = .ok (.iconst 0, 1) := by decide +kernel
theorem dL_isReturnedSo_178 : decode cL_isReturnedSo 178 = .ok (.istore 9, 2) := by decide +kernel
theorem dL_isReturnedSo_180 : decode cL_isReturnedSo 180 = .ok (.iload 9, 2) := by decide +kernel
theorem dL_isReturnedSo_182 : decode cL_isReturnedSo 182 = .ok (.ifCond .eq 67, 3) := by decide +kernel
theorem dL_isReturnedSo_185 : decode cL_isReturnedSo 185 = .ok (.aload_n 0, 1) := by decide +kernel
theorem dL_isReturnedSo_186 : decode cL_isReturnedSo 186 = .ok (.bipush 60, 2) := by decide +kernel
theorem dL_isReturnedSo_188 : decode cL_isReturnedSo 188 = .ok (.invokevirtual 14, 3) := by decide +kernel
theorem dL_isReturnedSo_191 : decode cL_isReturnedSo 191 = .ok (.iload 5, 2) := by decide +kernel
theorem dL_isReturnedSo_193 : decode cL_isReturnedSo 193 = .ok (.bipush 60, 2) := by decide +kernel
theorem dL_isReturnedSo_195 : decode cL_isReturnedSo 195 = .ok (.if_icmp .le 8, 3) := by decide +kernel
theorem dL_isReturnedSo_198 : decode cL_isReturnedSo 198 = .ok (.bipush 60, 2) := by decide +kernel
theorem dL_isReturnedSo_200 : decode cL_isReturnedSo 200 = .ok (.goto 5, 3) := by decide +kernel
theorem dL_isReturnedSo_203 : decode cL_isReturnedSo 203 = .ok (.iload 5, 2) := by decide +kernel
theorem dL_isReturnedSo_205 : decode cL_isReturnedSo 205 = .ok (.if_icmp .ne 44, 3) := by decide +kernel
theorem dL_isReturnedSo_208 : decode cL_isReturnedSo 208 = .ok (.aload_n 0, 1) := by decide +kernel
theorem dL_isReturnedSo_209 : decode cL_isReturnedSo 209 = .ok (.invokevirtual 65, 3) := by decide +kernel
theorem dL_isReturnedSo_212 : decode cL_isReturnedSo 212 = .ok (.ifCond .ne 37, 3) := by decide +kernel
theorem dL_isReturnedSo_215 : decode cL_isReturnedSo 215 = .ok (.aload_n 0, 1) := by decide +kernel
theorem dL_isReturnedSo_216 : decode cL_isReturnedSo 216 = .ok (.invokevirtual 62, 3) := by decide +kernel
theorem dL_isReturnedSo_219 : decode cL_isReturnedSo 219 = .ok (.ifCond .ne 30, 3) := by decide +kernel
theorem dL_isReturnedSo_222 : decode cL_isReturnedSo 222 = .ok (.aload_n 1, 1) := by decide +kernel
theorem dL_isReturnedSo_223 : decode cL_isReturnedSo 223 = .ok (.bipush 60, 2) := by decide +kernel
theorem dL_isReturnedSo_225 : decode cL_isReturnedSo 225 = .ok (.invokevirtual 14, 3) := by decide +kernel
theorem dL_isReturnedSo_228 : decode cL_isReturnedSo 228 = .ok (.iload 5, 2) := by decide +kernel
theorem dL_isReturnedSo_230 : decode cL_isReturnedSo 230 = .ok (.bipush 60, 2) := by decide +kernel
theorem dL_isReturnedSo_232 : decode cL_isReturnedSo 232 = .ok (.if_icmp .le 8, 3) := by decide +kernel
theorem dL_isReturnedSo_235 : decode cL_isReturnedSo 235 = .ok (.bipush 60, 2) := by decide +kernel
theorem dL_isReturnedSo_237 : decode cL_isReturnedSo 237 = .ok (.goto 5, 3) := by decide +kernel
theorem dL_isReturnedSo_240 : decode cL_isReturnedSo 240 = .ok (.iload 5, 2) := by decide +kernel
theorem dL_isReturnedSo_242 : decode cL_isReturnedSo 242 = .ok (.if_icmp .ne 7, 3) := by decide +kernel
theorem dL_isReturnedSo_245 : decode cL_isReturnedSo 245 = .ok (.iconst 1, 1) := by decide +kernel
theorem dL_isReturnedSo_246 : decode cL_isReturnedSo 246 = .ok (.goto 4, 3) := by decide +kernel
theorem dL_isReturnedSo_249 : decode cL_isReturnedSo 249 = .ok (.iconst 0, 1) := by decide +kernel
theorem dL_isReturnedSo_250 : decode cL_isReturnedSo 250 = .ok (.istore 9, 2) := by decide +kernel
theorem dL_isReturnedSo_252 : decode cL_isReturnedSo 252 = .ok (.aload_n 0, 1) := by decide +kernel
theorem dL_isReturnedSo_253 : decode cL_isReturnedSo 253 = .ok (.iload_n 3, 1) := by decide +kernel
theorem dL_isReturnedSo_254 : decode cL_isReturnedSo 254 = .ok (.iload 4, 2) := by decide +kernel
theorem dL_isReturnedSo_256 : decode cL_isReturnedSo 256 = .ok (.invokevirtual 88, 3) := by decide +kernel
theorem dL_isReturnedSo_259 : decode cL_isReturnedSo 259 = .ok (.istore 10, 2) := by decide +kernel
theorem dL_isReturnedSo_261 : decode cL_isReturnedSo 261 = .ok (.iload 9, 2) := by decide +kernel
theorem dL_isReturnedSo_263 : decode cL_isReturnedSo 263 = .ok (.ifCond .eq 40, 3) := by decide +kernel
theorem dL_isReturnedSo_266 : decode cL_isReturnedSo 266 = .ok (.aload_n 0, 1) := by decide +kernel
theorem dL_isReturnedSo_267 : decode cL_isReturnedSo 267 = .ok (.iload_n 3, 1) := by decide +kernel
theorem dL_isReturnedSo_268 : decode cL_isReturnedSo 268 = .ok (.iload 4, 2) := by decide +kernel
theorem dL_isReturnedSo_270 : decode cL_isReturnedSo 270 = .ok (.invokevirtual 27, 3) := by decide +kernel
theorem dL_isReturnedSo_273 : decode cL_isReturnedSo 273 = .ok (.iload 10, 2) := by decide +kernel
theorem dL_isReturnedSo_275 : decode cL_isReturnedSo 275 = .ok (.if_icmp .ne 28, 3) := by decide +kernel
theorem dL_isReturnedSo_278 : decode cL_isReturnedSo 278 = .ok (.aload_n 1, 1) := by decide +kernel
theorem dL_isReturnedSo_279 : decode cL_isReturnedSo 279 = .ok (.iload_n 3, 1) := by decide +kernel
theorem dL_isReturnedSo_280 : decode cL_isReturnedSo 280 = .ok (.iload 4, 2) := by decide +kernel
theorem dL_isReturnedSo_282 : decode cL_isReturnedSo 282 = .ok (.invokevirtual 27, 3) := by decide +kernel
theorem dL_isReturnedSo_285 : decode cL_isReturnedSo 285 = .ok (.iload 10, 2) := by decide +kernel
theorem dL_isReturnedSo_287 : decode cL_isReturnedSo 287 = .ok (.if_icmp .ne 16, 3) := by decide +kernel
theorem dL_isReturnedSo_290 : decode cL_isReturnedSo 290 = .ok (.aload_n 0, 1) := by decide +kernel
theorem dL_isReturnedSo_291 : decode cL_isReturnedSo 291 = .ok (.invokevirtual 65, 3) := by decide +kernel
theorem dL_isReturnedSo_294 : decode cL_isReturnedSo 294 = .ok (.iload 10, 2) := by decide +kernel
theorem dL_isReturnedSo_296 : decode cL_isReturnedSo 296 = .ok (.if_icmp .ne 7, 3) := by decide +kernel
theorem dL_isReturnedSo_299 : decode cL_isReturnedSo 299 = .ok (.iconst 1, 1) := by decide +kernel
theorem dL_isReturnedSo_300 : decode cL_isReturnedSo 300 = .ok (.goto 4, 3) := by decide +kernel
theorem dL_isReturnedSo_303 : decode cL_isReturnedSo 303 = .ok (.iconst 0, 1) := by decide +kernel
theorem dL_isReturnedSo_304 : decode cL_isReturnedSo 304 = .ok (.ireturn, 1) := by decide +kernel
theorem dL_law_0 : decode cL_law 0 = .ok (.iconst 3, 1) := by decide +kernel
theorem dL_law_1 : decode cL_law 1 = .ok (.aload_n 0, 1) := by decide +kernel
theorem dL_law_2 : decode cL_law 2 = .ok (.iconst 0, 1) := by decide +kernel
theorem dL_law_3 : decode cL_law 3 = .ok (.invokestatic 97, 3) := by decide +kernel
theorem dL_law_6 : decode cL_law 6 = .ok (.iconst 5, 1) := by decide +kernel
theorem dL_law_7 : decode cL_law 7 = .ok (.invokestatic 48, 3) := by decide +kernel
theorem dL_law_10 : decode cL_law 10 = .ok (.iadd, 1) := by decide +kernel
theorem dL_law_11 : decode cL_law 11 = .ok (.istore_n 1, 1) := by decide +kernel
theorem dL_law_12 : decode cL_law 12 = .ok (.iconst 3, 1) := by decide +kernel
theorem dL_law_13 : decode cL_law 13 = .ok (.aload_n 0, 1) := by decide +kernel
theorem dL_law_14 : decode cL_law 14 = .ok (.iconst 0, 1) := by decide +kernel
theorem dL_law_15 : decode cL_law 15 = .ok (.invokestatic 97, 3) := by decide +kernel
theorem dL_law_18 : decode cL_law 18 = .ok (.iconst 4, 1) := by decide +kernel
theorem dL_law_19 : decode cL_law 19 = .ok (.ishr, 1) := by decide +kernel
theorem dL_law_20 : decode cL_law 20 = .ok (.iconst 5, 1) := by decide +kernel
theorem dL_law_21 : decode cL_law 21 = .ok (.invokestatic 48, 3) := by decide +kernel
theorem dL_law_24 : decode cL_law 24 = .ok (.iadd, 1) := by decide +kernel
theorem dL_law_25 : decode cL_law 25 = .ok (.istore_n 2, 1) := by decide +kernel
theorem dL_law_26 : decode cL_law 26 = .ok (.iconst 2, 1) := by decide +kernel
theorem dL_law_27 : decode cL_law 27 = .ok (.aload_n 0, 1) := by decide +kernel
theorem dL_law_28 : decode cL_law 28 = .ok (.iconst 0, 1) := by decide +kernel
theorem dL_law_29 : decode cL_law 29 = .ok (.invokestatic 97, 3) := by decide +kernel
theorem dL_law_32 : decode cL_law 32 = .ok (.bipush 8, 2) := by decide +kernel
theorem dL_law_34 : decode cL_law 34 = .ok (.ishr, 1) := by decide +kernel
theorem dL_law_35 : decode cL_law 35 = .ok (.bipush 58, 2) := by decide +kernel
theorem dL_law_37 : decode cL_law 37 = .ok (.invokestatic 48, 3) := by decide +kernel
theorem dL_law_40 : decode cL_law 40 = .ok (.iadd, 1) := by decide +kernel
theorem dL_law_41 : decode cL_law 41 = .ok (.istore_n 3, 1) := by decide +kernel
theorem dL_law_42 : decode cL_law 42 = .ok (.new 9, 3) := by decide +kernel
theorem dL_law_45 : decode cL_law 45 = .ok (.dup, 1) := by decide +kernel
theorem dL_law_46 : decode cL_law 46 = .ok (.iload_n 1, 1) := by decide +kernel
theorem dL_law_47 : decode cL_law 47 = .ok (.iload_n 2, 1) := by decide +kernel
theorem dL_law_48 : decode cL_law 48 = .ok (.iload_n 3, 1) := by decide +kernel
theorem dL_law_49 : decode cL_law 49 = .ok (.invokespecial 101, 3) := by decide +kernel
theorem dL_law_52 : decode cL_law 52 = .ok (.astore 4, 2) := by decide +kernel
theorem dL_law_54 : decode cL_law 54 = .ok (.new 9, 3) := by decide +kernel
theorem dL_law_57 : decode cL_law 57 = .ok (.dup, 1) := by decide +kernel
theorem dL_law_58 : decode cL_law 58 = .ok (.iload_n 1, 1) := by decide +kernel
theorem dL_law_59 : decode cL_law 59 = .ok (.iload_n 2, 1) := by decide +kernel
theorem dL_law_60 : decode cL_law 60 = .ok (.iload_n 3, 1) := by decide +kernel
theorem dL_law_61 : decode cL_law 61 = .ok (.invokespecial 101, 3) := by decide +kernel
theorem dL_law_64 : decode cL_law 64 = .ok (.astore 5, 2) := by decide +kernel
theorem dL_law_66 : decode cL_law 66 = .ok (.iconst 1, 1) := by decide +kernel
theorem dL_law_67 : decode cL_law 67 = .ok (.istore 6, 2) := by decide +kernel
theorem dL_law_69 : decode cL_law 69 = .ok (.iload 6, 2) := by decide +kernel
theorem dL_law_71 : decode cL_law 71 = .ok (.iconst 4, 1) := by decide +kernel
theorem dL_law_72 : decode cL_law 72 = .ok (.if_icmp .ge 62, 3) := by decide +kernel
theorem dL_law_75 : decode cL_law 75 = .ok (.aload_n 0, 1) := by decide +kernel
theorem dL_law_76 : decode cL_law 76 = .ok (.iload 6, 2) := by decide +kernel
theorem dL_law_78 : decode cL_law 78 = .ok (.invokestatic 97, 3) := by decide +kernel
theorem dL_law_81 : decode cL_law 81 = .ok (.istore 7, 2) := by decide +kernel
theorem dL_law_83 : decode cL_law 83 = .ok (.aload 4, 2) := by decide +kernel
theorem dL_law_85 : decode cL_law 85 = .ok (.iconst 2, 1) := by decide +kernel
theorem dL_law_86 : decode cL_law 86 = .ok (.iload 7, 2) := by decide +kernel
theorem dL_law_88 : decode cL_law 88 = .ok (.iload_n 1, 1) := by decide +kernel
theorem dL_law_89 : decode cL_law 89 = .ok (.invokestatic 48, 3) := by decide +kernel
theorem dL_law_92 : decode cL_law 92 = .ok (.iload 7, 2) := by decide +kernel
theorem dL_law_94 : decode cL_law 94 = .ok (.iconst 4, 1) := by decide +kernel
theorem dL_law_95 : decode cL_law 95 = .ok (.ishr, 1) := by decide +kernel
theorem dL_law_96 : decode cL_law 96 = .ok (.iload_n 2, 1) := by decide +kernel
theorem dL_law_97 : decode cL_law 97 = .ok (.invokestatic 48, 3) := by decide +kernel
theorem dL_law_100 : decode cL_law 100 = .ok (.invokestatic 51, 3) := by decide +kernel
theorem dL_law_103 : decode cL_law 103 = .ok (.aload 5, 2) := by decide +kernel
theorem dL_law_105 : decode cL_law 105 = .ok (.iconst 2, 1) := by decide +kernel
theorem dL_law_106 : decode cL_law 106 = .ok (.iload 7, 2) := by decide +kernel
theorem dL_law_108 : decode cL_law 108 = .ok (.iload_n 1, 1) := by decide +kernel
theorem dL_law_109 : decode cL_law 109 = .ok (.invokestatic 48, 3) := by decide +kernel
theorem dL_law_112 : decode cL_law 112 = .ok (.iload 7, 2) := by decide +kernel
theorem dL_law_114 : decode cL_law 114 = .ok (.iconst 4, 1) := by decide +kernel
theorem dL_law_115 : decode cL_law 115 = .ok (.ishr, 1) := by decide +kernel
theorem dL_law_116 : decode cL_law 116 = .ok (.iload_n 2, 1) := by decide +kernel
theorem dL_law_117 : decode cL_law 117 = .ok (.invokestatic 48, 3) := by decide +kernel
theorem dL_law_120 : decode cL_law 120 = .ok (.invokestatic 51, 3) := by decide +kernel
theorem dL_law_123 : decode cL_law 123 = .ok (.if_icmp .eq 5, 3) := by decide +kernel
theorem dL_law_126 : decode cL_law 126 = .ok (.iconst 0, 1) := by decide +kernel
theorem dL_law_127 : decode cL_law 127 = .ok (.ireturn, 1) := by decide +kernel
theorem dL_law_128 : decode cL_law 128 = .ok (.iinc 6 1, 3) := by decide +kernel
theorem dL_law_131 : decode cL_law 131 = .ok (.goto (-62), 3) := by decide +kernel
theorem dL_law_134 : decode cL_law 134 = .ok (.iconst 4, 1) := by decide +kernel
theorem dL_law_135 : decode cL_law 135 = .ok (.istore 6, 2) := by decide +kernel
theorem dL_law_137 : decode cL_law 137 = .ok (.iload 6, 2) := by decide +kernel
theorem dL_law_139 : decode cL_law 139 = .ok (.bipush 50, 2) := by decide +kernel
theorem dL_law_141 : decode cL_law 141 = .ok (.if_icmp .ge 126, 3) := by decide +kernel
theorem dL_law_144 : decode cL_law 144 = .ok (.aload_n 0, 1) := by decide +kernel
theorem dL_law_145 : decode cL_law 145 = .ok (.iload 6, 2) := by decide +kernel
theorem dL_law_147 : decode cL_law 147 = .ok (.invokestatic 97, 3) := by decide +kernel
theorem dL_law_150 : decode cL_law 150 = .ok (.istore 7, 2) := by decide +kernel
theorem dL_law_152 : decode cL_law 152 = .ok (.aload 4, 2) := by decide +kernel
theorem dL_law_154 : decode cL_law 154 = .ok (.iload_n 1, 1) := by decide +kernel
theorem dL_law_155 : decode cL_law 155 = .ok (.iload_n 2, 1) := by decide +kernel
theorem dL_law_156 : decode cL_law 156 = .ok (.iload 7, 2) := by decide +kernel
theorem dL_law_158 : decode cL_law 158 = .ok (.invokestatic 104, 3) := by decide +kernel
theorem dL_law_161 : decode cL_law 161 = .ok (.istore 8, 2) := by decide +kernel
theorem dL_law_163 : decode cL_law 163 = .ok (.iload 8, 2) := by decide +kernel
theorem dL_law_165 : decode cL_law 165 = .ok (.ldc 32, 2) := by decide +kernel
theorem dL_law_167 : decode cL_law 167 = .ok (.if_icmp .eq 17, 3) := by decide +kernel
theorem dL_law_170 : decode cL_law 170 = .ok (.aload 5, 2) := by decide +kernel
theorem dL_law_172 : decode cL_law 172 = .ok (.iload_n 1, 1) := by decide +kernel
theorem dL_law_173 : decode cL_law 173 = .ok (.iload_n 2, 1) := by decide +kernel
theorem dL_law_174 : decode cL_law 174 = .ok (.iload 7, 2) := by decide +kernel
theorem dL_law_176 : decode cL_law 176 = .ok (.invokestatic 104, 3) := by decide +kernel
theorem dL_law_179 : decode cL_law 179 = .ok (.iload 8, 2) := by decide +kernel
theorem dL_law_181 : decode cL_law 181 = .ok (.if_icmp .ne 48, 3) := by decide +kernel
theorem dL_law_184 : decode cL_law 184 = .ok (.iload 6, 2) := by decide +kernel
theorem dL_law_186 : decode cL_law 186 = .ok (.iconst 4, 1) := by decide +kernel
theorem dL_law_187 : decode cL_law 187 = .ok (.irem, 1) := by decide +kernel
theorem dL_law_188 : decode cL_law 188 = .ok (.iconst 3, 1) := by decide +kernel
theorem dL_law_189 : decode cL_law 189 = .ok (.if_icmp .ne 13, 3) := by decide +kernel
theorem dL_law_192 : decode cL_law 192 = .ok (.aload 4, 2) := by decide +kernel
theorem dL_law_194 : decode cL_law 194 = .ok (.aload 5, 2) := by decide +kernel
theorem dL_law_196 : decode cL_law 196 = .ok (.invokestatic 107, 3) := by decide +kernel
theorem dL_law_199 : decode cL_law 199 = .ok (.ifCond .eq 30, 3) := by decide +kernel
theorem dL_law_202 : decode cL_law 202 = .ok (.aload 4, 2) := by decide +kernel
theorem dL_law_204 : decode cL_law 204 = .ok (.invokestatic 111, 3) := by decide +kernel
theorem dL_law_207 : decode cL_law 207 = .ok (.ifCond .eq 22, 3) := by decide +kernel
theorem dL_law_210 : decode cL_law 210 = .ok (.iload 6, 2) := by decide +kernel
theorem dL_law_212 : decode cL_law 212 = .ok (.bipush 8, 2) := by decide +kernel
theorem dL_law_214 : decode cL_law 214 = .ok (.irem, 1) := by decide +kernel
theorem dL_law_215 : decode cL_law 215 = .ok (.iconst 5, 1) := by decide +kernel
theorem dL_law_216 : decode cL_law 216 = .ok (.if_icmp .ne 15, 3) := by decide +kernel
theorem dL_law_219 : decode cL_law 219 = .ok (.aload 4, 2) := by decide +kernel
theorem dL_law_221 : decode cL_law 221 = .ok (.iload_n 1, 1) := by decide +kernel
theorem dL_law_222 : decode cL_law 222 = .ok (.iload_n 2, 1) := by decide +kernel
theorem dL_law_223 : decode cL_law 223 = .ok (.invokestatic 115, 3) := by decide +kernel
theorem dL_law_226 : decode cL_law 226 = .ok (.ifCond .ne 5, 3) := by decide +kernel
theorem dL_law_229 : decode cL_law 229 = .ok (.iconst 0, 1) := by decide +kernel
theorem dL_law_230 : decode cL_law 230 = .ok (.ireturn, 1) := by decide +kernel
theorem dL_law_231 : decode cL_law 231 = .ok (.iload 6, 2) := by decide +kernel
theorem dL_law_233 : decode cL_law 233 = .ok (.bipush 7, 2) := by decide +kernel
theorem dL_law_235 : decode cL_law 235 = .ok (.irem, 1) := by decide +kernel
theorem dL_law_236 : decode cL_law 236 = .ok (.bipush 6, 2) := by decide +kernel
theorem dL_law_238 : decode cL_law 238 = .ok (.if_icmp .ne 23, 3) := by decide +kernel
theorem dL_law_241 : decode cL_law 241 = .ok (.aload 4, 2) := by decide +kernel
theorem dL_law_243 : decode cL_law 243 = .ok (.aload 5, 2) := by decide +kernel
theorem dL_law_245 : decode cL_law 245 = .ok (.iload 7, 2) := by decide +kernel
theorem dL_law_247 : decode cL_law 247 = .ok (.iconst 5, 1) := by decide +kernel
theorem dL_law_248 : decode cL_law 248 = .ok (.ishr, 1) := by decide +kernel
theorem dL_law_249 : decode cL_law 249 = .ok (.iconst 4, 1) := by decide +kernel
theorem dL_law_250 : decode cL_law 250 = .ok (.invokestatic 48, 3) := by decide +kernel
theorem dL_law_253 : decode cL_law 253 = .ok (.invokestatic 119, 3) := by decide +kernel
theorem dL_law_256 : decode cL_law 256 = .ok (.ifCond .ne 5, 3) := by decide +kernel
theorem dL_law_259 : decode cL_law 259 = .ok (.iconst 0, 1) := by decide +kernel
theorem dL_law_260 : decode cL_law 260 = .ok (.ireturn, 1) := by decide +kernel
theorem dL_law_261 : decode cL_law 261 = .ok (.iinc 6 1, 3) := by decide +kernel
theorem dL_law_264 : decode cL_law 264 = .ok (.goto (-127), 3) := by decide +kernel
theorem dL_law_267 : decode cL_law 267 = .ok (.aload 4, 2) := by decide +kernel
theorem dL_law_269 : decode cL_law 269 = .ok (.aload 5, 2) := by decide +kernel
theorem dL_law_271 : decode cL_law 271 = .ok (.invokestatic 107, 3) := by decide +kernel
theorem dL_law_274 : decode cL_law 274 = .ok (.ifCond .eq 17, 3) := by decide +kernel
theorem dL_law_277 : decode cL_law 277 = .ok (.aload 4, 2) := by decide +kernel
theorem dL_law_279 : decode cL_law 279 = .ok (.iload_n 1, 1) := by decide +kernel
theorem dL_law_280 : decode cL_law 280 = .ok (.iload_n 2, 1) := by decide +kernel
theorem dL_law_281 : decode cL_law 281 = .ok (.invokestatic 115, 3) := by decide +kernel
theorem dL_law_284 : decode cL_law 284 = .ok (.ifCond .eq 7, 3) := by decide +kernel
theorem dL_law_287 : decode cL_law 287 = .ok (.iconst 1, 1) := by decide +kernel
theorem dL_law_288 : decode cL_law 288 = .ok (.goto 4, 3) := by decide +kernel
theorem dL_law_291 : decode cL_law 291 = .ok (.iconst 0, 1) := by decide +kernel
theorem dL_law_292 : decode cL_law 292 = .ok (.ireturn, 1) := by decide +kernel
end
section
/-- the good words of the tables: every method's words, behind its own code -/
def GW : List Cond := lw_tbl.filter goodWord
theorem mem_gw {w : Cond} (k : Nat) (h : tables_1[k]? = some w) (g : goodWord w = true) : w ∈ GW := List.mem_filter.mpr ⟨List.mem_append_right _ (List.mem_of_getElem? h), g⟩
theorem mem_gs {w : Cond} (k : Nat) (h : (k2_sels lw_privs)[k]? = some w) (g : goodWord w = true) : w ∈ GW := List.mem_filter.mpr ⟨List.mem_append_left _ (List.mem_of_getElem? h), g⟩
theorem gw_lw {args : Array Value} {s : State} (h : ∀ w ∈ lw_tbl, w.before args s = true) : ∀ w ∈ GW, w.before args s = true := fun w hw => h w (List.mem_filter.mp hw).1
theorem gw_good {ws : List Cond} (h : ∀ w ∈ ws, w ∈ GW) : GoodIn GW ws := fun w hw => ⟨h w hw, good_of_word (List.mem_filter.mp (h w hw)).2⟩
theorem gw_self : GoodIn GW GW := gw_good fun _ h => h
theorem gw_cons {w : Cond} {ws : List Cond} (h : w ∈ GW) (t : ∀ v ∈ ws, v ∈ GW) : ∀ v ∈ w :: ws, v ∈ GW := fun v hv => (List.mem_cons.mp hv).elim (fun e => e ▸ h) (t v)
theorem gw_nil : ∀ v ∈ ([] : List Cond), v ∈ GW := fun _ h => nomatch h
theorem q_0 : Cond.initialized RL ∈ GW := mem_gw 0 (by decide +kernel) (by decide +kernel)
theorem q_1 : Cond.initialized RX2 ∈ GW := mem_gw 1 (by decide +kernel) (by decide +kernel)
theorem q_2 : Cond.initialized RX1 ∈ GW := mem_gw 2 (by decide +kernel) (by decide +kernel)
theorem q_3 : Cond.initialized RX0 ∈ GW := mem_gw 3 (by decide +kernel) (by decide +kernel)
theorem q_4 : Cond.initialized "java/lang/Math" ∈ GW := mem_gw 4 (by decide +kernel) (by decide +kernel)
theorem q_5 : Cond.initialized "java/util/Arrays" ∈ GW := mem_gw 5 (by decide +kernel) (by decide +kernel)
theorem q_7 : Cond.initialized "java/lang/Throwable" ∈ GW := mem_gw 6 (by decide +kernel) (by decide +kernel)
theorem q_8 : Cond.initialized "java/lang/Exception" ∈ GW := mem_gw 7 (by decide +kernel) (by decide +kernel)
theorem q_9 : Cond.initialized "java/lang/RuntimeException" ∈ GW := mem_gw 8 (by decide +kernel) (by decide +kernel)
theorem q_12 : Cond.initialized "java/lang/IllegalArgumentException" ∈ GW := mem_gw 9 (by decide +kernel) (by decide +kernel)
theorem q_11 : Cond.initialized "java/lang/IllegalStateException" ∈ GW := mem_gw 10 (by decide +kernel) (by decide +kernel)
theorem q_10 : Cond.initialized "java/lang/IndexOutOfBoundsException" ∈ GW := mem_gw 11 (by decide +kernel) (by decide +kernel)
theorem q_13 : Cond.initialized "java/util/NoSuchElementException" ∈ GW := mem_gw 12 (by decide +kernel) (by decide +kernel)
theorem q_5013 : Cond.classLink RL 9 "Tetherline" ∈ GW := mem_gw 13 (by decide +kernel) (by decide +kernel)
theorem q_15 : Cond.instantiable RX2 7 ∈ GW := mem_gw 14 (by decide +kernel) (by decide +kernel)
theorem q_5015 : Cond.methodLink RL 101 yX2_init ∈ GW := mem_gw 15 (by decide +kernel) (by decide +kernel)
theorem q_17 : Cond.instanceMethod yX2_init ∈ GW := mem_gw 16 (by decide +kernel) (by decide +kernel)
theorem q_18 : Cond.code yX2_init cX2_init 4 none ∈ GW := mem_gw 17 (by decide +kernel) (by decide +kernel)
theorem q_19 : Cond.methodLink RX2 3 ⟨"java/lang/Object", "<init>", "()V"⟩ ∈ GW := mem_gw 18 (by decide +kernel) (by decide +kernel)
theorem q_20 : Cond.instanceMethod ⟨"java/lang/Object", "<init>", "()V"⟩ ∈ GW := mem_gw 19 (by decide +kernel) (by decide +kernel)
theorem q_21 : Cond.code ⟨"java/lang/Object", "<init>", "()V"⟩ object_method_1_code 1 none ∈ GW := mem_gw 20 (by decide +kernel) (by decide +kernel)
theorem q_22 : Cond.classLink RX2 9 "Tetherline$Spread" ∈ GW := mem_gw 21 (by decide +kernel) (by decide +kernel)
theorem q_23 : Cond.instantiable RX1 3 ∈ GW := mem_gw 22 (by decide +kernel) (by decide +kernel)
theorem q_25 : Cond.instanceMethod yX1_init ∈ GW := mem_gw 24 (by decide +kernel) (by decide +kernel)
theorem q_26 : Cond.code yX1_init cX1_init 1 none ∈ GW := mem_gw 25 (by decide +kernel) (by decide +kernel)
theorem q_27 : Cond.methodLink RX1 3 ⟨"java/lang/Object", "<init>", "()V"⟩ ∈ GW := mem_gw 26 (by decide +kernel) (by decide +kernel)
theorem q_28 : Cond.fieldLink RX1 9 "Tetherline$Spread" "distances" "[I" ∈ GW := mem_gw 27 (by decide +kernel) (by decide +kernel)
theorem q_29 : Cond.fieldLink RX1 15 "Tetherline$Spread" "reached" "[I" ∈ GW := mem_gw 28 (by decide +kernel) (by decide +kernel)
theorem q_30 : Cond.fieldLink RX1 24 "Tetherline$Spread" "count" "I" ∈ GW := mem_gw 29 (by decide +kernel) (by decide +kernel)
theorem q_31 : Cond.laysFinal RX1 "Tetherline$Spread" "distances" "[I" ∈ GW := mem_gw 30 (by decide +kernel) (by decide +kernel)
theorem q_33 : Cond.laysFinal RX1 "Tetherline$Spread" "reached" "[I" ∈ GW := mem_gw 32 (by decide +kernel) (by decide +kernel)
theorem q_35 : Cond.lays RX1 "Tetherline$Spread" "count" "I" ∈ GW := mem_gw 34 (by decide +kernel) (by decide +kernel)
theorem q_38 : Cond.arrayClass .int ∈ GW := mem_gw 37 (by decide +kernel) (by decide +kernel)
theorem q_39 : Cond.classLink RX2 19 "Tetherline$Floor" ∈ GW := mem_gw 38 (by decide +kernel) (by decide +kernel)
theorem q_40 : Cond.instantiable RX0 4 ∈ GW := mem_gw 39 (by decide +kernel) (by decide +kernel)
theorem q_41 : Cond.methodLink RX2 21 yX2_between ∈ GW := mem_gw 40 (by decide +kernel) (by decide +kernel)
theorem q_42 : Cond.static yX2_between ∈ GW := mem_gw 41 (by decide +kernel) (by decide +kernel)
theorem q_43 : Cond.code yX2_between cX2_between 3 (some .int) ∈ GW := mem_gw 42 (by decide +kernel) (by decide +kernel)
theorem q_44 : Cond.methodLink RX2 106 yJ9_min_7cf53 ∈ GW := mem_gw 43 (by decide +kernel) (by decide +kernel)
theorem q_45 : Cond.static yJ9_min_7cf53 ∈ GW := mem_gw 44 (by decide +kernel) (by decide +kernel)
theorem q_46 : Cond.code yJ9_min_7cf53 cJ9_min_7cf53 2 (some .int) ∈ GW := mem_gw 45 (by decide +kernel) (by decide +kernel)
theorem q_47 : Cond.methodLink RX2 157 yJ9_max_7cf53 ∈ GW := mem_gw 46 (by decide +kernel) (by decide +kernel)
theorem q_48 : Cond.static yJ9_max_7cf53 ∈ GW := mem_gw 47 (by decide +kernel) (by decide +kernel)
theorem q_49 : Cond.code yJ9_max_7cf53 cJ9_max_7cf53 2 (some .int) ∈ GW := mem_gw 48 (by decide +kernel) (by decide +kernel)
theorem q_50 : Cond.methodLink RX2 25 yX0_init ∈ GW := mem_gw 49 (by decide +kernel) (by decide +kernel)
theorem q_51 : Cond.instanceMethod yX0_init ∈ GW := mem_gw 50 (by decide +kernel) (by decide +kernel)
theorem q_52 : Cond.code yX0_init cX0_init 3 none ∈ GW := mem_gw 51 (by decide +kernel) (by decide +kernel)
theorem q_53 : Cond.methodLink RX0 3 ⟨"java/lang/Object", "<init>", "()V"⟩ ∈ GW := mem_gw 52 (by decide +kernel) (by decide +kernel)
theorem q_54 : Cond.methodLink RX0 22 yJ7_fill_53178 ∈ GW := mem_gw 53 (by decide +kernel) (by decide +kernel)
theorem q_55 : Cond.static yJ7_fill_53178 ∈ GW := mem_gw 54 (by decide +kernel) (by decide +kernel)
theorem q_56 : Cond.code yJ7_fill_53178 cJ7_fill_53178 4 none ∈ GW := mem_gw 55 (by decide +kernel) (by decide +kernel)
theorem q_57 : Cond.fieldLink RX0 15 "Tetherline$Floor" "columns" "I" ∈ GW := mem_gw 56 (by decide +kernel) (by decide +kernel)
theorem q_58 : Cond.fieldLink RX0 19 "Tetherline$Floor" "rows" "I" ∈ GW := mem_gw 57 (by decide +kernel) (by decide +kernel)
theorem q_59 : Cond.fieldLink RX0 9 "Tetherline$Floor" "pillarNumbers" "[I" ∈ GW := mem_gw 58 (by decide +kernel) (by decide +kernel)
theorem q_60 : Cond.fieldLink RX0 28 "Tetherline$Floor" "pillars" "I" ∈ GW := mem_gw 59 (by decide +kernel) (by decide +kernel)
theorem q_61 : Cond.laysFinal RX0 "Tetherline$Floor" "columns" "I" ∈ GW := mem_gw 60 (by decide +kernel) (by decide +kernel)
theorem q_63 : Cond.laysFinal RX0 "Tetherline$Floor" "rows" "I" ∈ GW := mem_gw 62 (by decide +kernel) (by decide +kernel)
theorem q_65 : Cond.laysFinal RX0 "Tetherline$Floor" "pillarNumbers" "[I" ∈ GW := mem_gw 64 (by decide +kernel) (by decide +kernel)
theorem q_67 : Cond.lays RX0 "Tetherline$Floor" "pillars" "I" ∈ GW := mem_gw 66 (by decide +kernel) (by decide +kernel)
theorem q_70 : Cond.methodLink RX2 36 yX2_squareAt ∈ GW := mem_gw 69 (by decide +kernel) (by decide +kernel)
theorem q_71 : Cond.static yX2_squareAt ∈ GW := mem_gw 70 (by decide +kernel) (by decide +kernel)
theorem q_72 : Cond.code yX2_squareAt cX2_squareAt 2 (some .int) ∈ GW := mem_gw 71 (by decide +kernel) (by decide +kernel)
theorem q_73 : Cond.methodLink RX2 43 yX2_placeOf ∈ GW := mem_gw 72 (by decide +kernel) (by decide +kernel)
theorem q_74 : Cond.static yX2_placeOf ∈ GW := mem_gw 73 (by decide +kernel) (by decide +kernel)
theorem q_75 : Cond.code yX2_placeOf cX2_placeOf 2 (some .int) ∈ GW := mem_gw 74 (by decide +kernel) (by decide +kernel)
theorem q_76 : Cond.methodLink RX2 49 yX2_measureLengths ∈ GW := mem_gw 75 (by decide +kernel) (by decide +kernel)
theorem q_78 : Cond.instanceMethod yX2_measureLengths ∈ GW := mem_gw 77 (by decide +kernel) (by decide +kernel)
theorem q_79 : Cond.code yX2_measureLengths cX2_measureLengths 4 none ∈ GW := mem_gw 78 (by decide +kernel) (by decide +kernel)
theorem q_80 : Cond.methodLink RX2 163 yX1_begin ∈ GW := mem_gw 79 (by decide +kernel) (by decide +kernel)
theorem q_81 : Cond.instanceMethod yX1_begin ∈ GW := mem_gw 80 (by decide +kernel) (by decide +kernel)
theorem q_82 : Cond.selects RX1 yX1_begin yX1_begin ∈ GW := mem_gw 81 (by decide +kernel) (by decide +kernel)
theorem q_83 : Cond.code yX1_begin cX1_begin 2 none ∈ GW := mem_gw 82 (by decide +kernel) (by decide +kernel)
theorem q_84 : Cond.methodLink RX1 18 yJ7_fill_53178 ∈ GW := mem_gw 83 (by decide +kernel) (by decide +kernel)
theorem q_85 : Cond.methodLink RX1 28 yX1_add ∈ GW := mem_gw 84 (by decide +kernel) (by decide +kernel)
theorem q_87 : Cond.instanceMethod yX1_add ∈ GW := mem_gw 86 (by decide +kernel) (by decide +kernel)
theorem q_88 : Cond.code yX1_add cX1_add 3 none ∈ GW := mem_gw 87 (by decide +kernel) (by decide +kernel)
theorem q_89 : Cond.methodLink RX2 167 yX1_count ∈ GW := mem_gw 88 (by decide +kernel) (by decide +kernel)
theorem q_90 : Cond.instanceMethod yX1_count ∈ GW := mem_gw 89 (by decide +kernel) (by decide +kernel)
theorem q_91 : Cond.selects RX1 yX1_count yX1_count ∈ GW := mem_gw 90 (by decide +kernel) (by decide +kernel)
theorem q_92 : Cond.code yX1_count cX1_count 1 (some .int) ∈ GW := mem_gw 91 (by decide +kernel) (by decide +kernel)
theorem q_93 : Cond.methodLink RX2 170 yX1_placeAt ∈ GW := mem_gw 92 (by decide +kernel) (by decide +kernel)
theorem q_94 : Cond.instanceMethod yX1_placeAt ∈ GW := mem_gw 93 (by decide +kernel) (by decide +kernel)
theorem q_95 : Cond.selects RX1 yX1_placeAt yX1_placeAt ∈ GW := mem_gw 94 (by decide +kernel) (by decide +kernel)
theorem q_96 : Cond.code yX1_placeAt cX1_placeAt 2 (some .int) ∈ GW := mem_gw 95 (by decide +kernel) (by decide +kernel)
theorem q_97 : Cond.methodLink RX2 151 yX0_after ∈ GW := mem_gw 96 (by decide +kernel) (by decide +kernel)
theorem q_98 : Cond.instanceMethod yX0_after ∈ GW := mem_gw 97 (by decide +kernel) (by decide +kernel)
theorem q_99 : Cond.selects RX0 yX0_after yX0_after ∈ GW := mem_gw 98 (by decide +kernel) (by decide +kernel)
theorem q_100 : Cond.code yX0_after cX0_after 5 (some .int) ∈ GW := mem_gw 99 (by decide +kernel) (by decide +kernel)
theorem q_102 : Cond.static yX2_squareOf ∈ GW := mem_gw 101 (by decide +kernel) (by decide +kernel)
theorem q_103 : Cond.code yX2_squareOf cX2_squareOf 1 (some .int) ∈ GW := mem_gw 102 (by decide +kernel) (by decide +kernel)
theorem q_105 : Cond.static yX2_columnOf ∈ GW := mem_gw 104 (by decide +kernel) (by decide +kernel)
theorem q_106 : Cond.code yX2_columnOf cX2_columnOf 1 (some .int) ∈ GW := mem_gw 105 (by decide +kernel) (by decide +kernel)
theorem q_108 : Cond.static yX2_rowOf ∈ GW := mem_gw 107 (by decide +kernel) (by decide +kernel)
theorem q_109 : Cond.code yX2_rowOf cX2_rowOf 1 (some .int) ∈ GW := mem_gw 108 (by decide +kernel) (by decide +kernel)
theorem q_111 : Cond.static yX2_wordOf ∈ GW := mem_gw 110 (by decide +kernel) (by decide +kernel)
theorem q_112 : Cond.code yX2_wordOf cX2_wordOf 1 (some .int) ∈ GW := mem_gw 111 (by decide +kernel) (by decide +kernel)
theorem q_113 : Cond.methodLink RX0 51 yX0_placeAt ∈ GW := mem_gw 112 (by decide +kernel) (by decide +kernel)
theorem q_115 : Cond.instanceMethod yX0_placeAt ∈ GW := mem_gw 114 (by decide +kernel) (by decide +kernel)
theorem q_116 : Cond.code yX0_placeAt cX0_placeAt 4 (some .int) ∈ GW := mem_gw 115 (by decide +kernel) (by decide +kernel)
theorem q_117 : Cond.methodLink RX0 61 yX0_has ∈ GW := mem_gw 116 (by decide +kernel) (by decide +kernel)
theorem q_118 : Cond.instanceMethod yX0_has ∈ GW := mem_gw 117 (by decide +kernel) (by decide +kernel)
theorem q_119 : Cond.selects RX0 yX0_has yX0_has ∈ GW := mem_gw 118 (by decide +kernel) (by decide +kernel)
theorem q_120 : Cond.code yX0_has cX0_has 3 (some .boolean) ∈ GW := mem_gw 119 (by decide +kernel) (by decide +kernel)
theorem q_122 : Cond.methodLink RX0 69 yX0_isPillar ∈ GW := mem_gw 121 (by decide +kernel) (by decide +kernel)
theorem q_123 : Cond.instanceMethod yX0_isPillar ∈ GW := mem_gw 122 (by decide +kernel) (by decide +kernel)
theorem q_124 : Cond.selects RX0 yX0_isPillar yX0_isPillar ∈ GW := mem_gw 123 (by decide +kernel) (by decide +kernel)
theorem q_125 : Cond.code yX0_isPillar cX0_isPillar 2 (some .boolean) ∈ GW := mem_gw 124 (by decide +kernel) (by decide +kernel)
theorem q_126 : Cond.methodLink RX0 31 yX0_pillarNumberOf ∈ GW := mem_gw 125 (by decide +kernel) (by decide +kernel)
theorem q_128 : Cond.instanceMethod yX0_pillarNumberOf ∈ GW := mem_gw 127 (by decide +kernel) (by decide +kernel)
theorem q_129 : Cond.code yX0_pillarNumberOf cX0_pillarNumberOf 2 (some .int) ∈ GW := mem_gw 128 (by decide +kernel) (by decide +kernel)
theorem q_131 : Cond.methodLink RX0 55 yX0_wordToTheRight ∈ GW := mem_gw 130 (by decide +kernel) (by decide +kernel)
theorem q_133 : Cond.instanceMethod yX0_wordToTheRight ∈ GW := mem_gw 132 (by decide +kernel) (by decide +kernel)
theorem q_134 : Cond.code yX0_wordToTheRight cX0_wordToTheRight 7 (some .int) ∈ GW := mem_gw 133 (by decide +kernel) (by decide +kernel)
theorem q_136 : Cond.static yX2_withLetter ∈ GW := mem_gw 135 (by decide +kernel) (by decide +kernel)
theorem q_137 : Cond.code yX2_withLetter cX2_withLetter 2 (some .int) ∈ GW := mem_gw 136 (by decide +kernel) (by decide +kernel)
theorem q_138 : Cond.methodLink RX2 137 yX2_lastLetterOf ∈ GW := mem_gw 137 (by decide +kernel) (by decide +kernel)
theorem q_139 : Cond.static yX2_lastLetterOf ∈ GW := mem_gw 138 (by decide +kernel) (by decide +kernel)
theorem q_140 : Cond.code yX2_lastLetterOf cX2_lastLetterOf 1 (some .int) ∈ GW := mem_gw 139 (by decide +kernel) (by decide +kernel)
theorem q_141 : Cond.methodLink RX2 188 yX2_oppositeOf ∈ GW := mem_gw 140 (by decide +kernel) (by decide +kernel)
theorem q_142 : Cond.static yX2_oppositeOf ∈ GW := mem_gw 141 (by decide +kernel) (by decide +kernel)
theorem q_143 : Cond.code yX2_oppositeOf cX2_oppositeOf 1 (some .int) ∈ GW := mem_gw 142 (by decide +kernel) (by decide +kernel)
theorem q_144 : Cond.methodLink RX0 58 yX0_wordToTheLeft ∈ GW := mem_gw 143 (by decide +kernel) (by decide +kernel)
theorem q_146 : Cond.instanceMethod yX0_wordToTheLeft ∈ GW := mem_gw 145 (by decide +kernel) (by decide +kernel)
theorem q_147 : Cond.code yX0_wordToTheLeft cX0_wordToTheLeft 7 (some .int) ∈ GW := mem_gw 146 (by decide +kernel) (by decide +kernel)
theorem q_149 : Cond.methodLink RX2 173 yX1_reach ∈ GW := mem_gw 148 (by decide +kernel) (by decide +kernel)
theorem q_150 : Cond.instanceMethod yX1_reach ∈ GW := mem_gw 149 (by decide +kernel) (by decide +kernel)
theorem q_151 : Cond.selects RX1 yX1_reach yX1_reach ∈ GW := mem_gw 150 (by decide +kernel) (by decide +kernel)
theorem q_152 : Cond.code yX1_reach cX1_reach 3 none ∈ GW := mem_gw 151 (by decide +kernel) (by decide +kernel)
theorem q_153 : Cond.methodLink RX1 32 yX1_distanceOf ∈ GW := mem_gw 152 (by decide +kernel) (by decide +kernel)
theorem q_154 : Cond.instanceMethod yX1_distanceOf ∈ GW := mem_gw 153 (by decide +kernel) (by decide +kernel)
theorem q_155 : Cond.selects RX1 yX1_distanceOf yX1_distanceOf ∈ GW := mem_gw 154 (by decide +kernel) (by decide +kernel)
theorem q_156 : Cond.code yX1_distanceOf cX1_distanceOf 2 (some .int) ∈ GW := mem_gw 155 (by decide +kernel) (by decide +kernel)
theorem q_157 : Cond.fieldLink RX2 28 "Tetherline" "floor" "LTetherline$Floor;" ∈ GW := mem_gw 156 (by decide +kernel) (by decide +kernel)
theorem q_158 : Cond.fieldLink RX2 32 "Tetherline" "limit" "I" ∈ GW := mem_gw 157 (by decide +kernel) (by decide +kernel)
theorem q_159 : Cond.fieldLink RX2 12 "Tetherline" "lengths" "LTetherline$Spread;" ∈ GW := mem_gw 158 (by decide +kernel) (by decide +kernel)
theorem q_160 : Cond.fieldLink RX2 16 "Tetherline" "ways" "LTetherline$Spread;" ∈ GW := mem_gw 159 (by decide +kernel) (by decide +kernel)
theorem q_161 : Cond.fieldLink RX2 40 "Tetherline" "base" "I" ∈ GW := mem_gw 160 (by decide +kernel) (by decide +kernel)
theorem q_162 : Cond.fieldLink RX2 46 "Tetherline" "place" "I" ∈ GW := mem_gw 161 (by decide +kernel) (by decide +kernel)
theorem q_163 : Cond.fieldLink RX2 76 "Tetherline" "stepsMade" "I" ∈ GW := mem_gw 162 (by decide +kernel) (by decide +kernel)
theorem q_164 : Cond.laysFinal RX2 "Tetherline" "floor" "LTetherline$Floor;" ∈ GW := mem_gw 163 (by decide +kernel) (by decide +kernel)
theorem q_166 : Cond.laysFinal RX2 "Tetherline" "limit" "I" ∈ GW := mem_gw 165 (by decide +kernel) (by decide +kernel)
theorem q_168 : Cond.laysFinal RX2 "Tetherline" "lengths" "LTetherline$Spread;" ∈ GW := mem_gw 167 (by decide +kernel) (by decide +kernel)
theorem q_170 : Cond.laysFinal RX2 "Tetherline" "ways" "LTetherline$Spread;" ∈ GW := mem_gw 169 (by decide +kernel) (by decide +kernel)
theorem q_172 : Cond.lays RX2 "Tetherline" "base" "I" ∈ GW := mem_gw 171 (by decide +kernel) (by decide +kernel)
theorem q_174 : Cond.lays RX2 "Tetherline" "place" "I" ∈ GW := mem_gw 173 (by decide +kernel) (by decide +kernel)
theorem q_176 : Cond.lays RX2 "Tetherline" "stepsMade" "I" ∈ GW := mem_gw 175 (by decide +kernel) (by decide +kernel)
theorem q_5178 : Cond.methodLink RL 97 yL_cell ∈ GW := mem_gw 178 (by decide +kernel) (by decide +kernel)
theorem q_5179 : Cond.static yL_cell ∈ GW := mem_gw 179 (by decide +kernel) (by decide +kernel)
theorem q_5180 : Cond.code yL_cell cL_cell 2 (some .int) ∈ GW := mem_gw 180 (by decide +kernel) (by decide +kernel)
theorem q_5181 : Cond.methodLink RL 48 yL_low ∈ GW := mem_gw 181 (by decide +kernel) (by decide +kernel)
theorem q_5182 : Cond.static yL_low ∈ GW := mem_gw 182 (by decide +kernel) (by decide +kernel)
theorem q_5183 : Cond.code yL_low cL_low 2 (some .int) ∈ GW := mem_gw 183 (by decide +kernel) (by decide +kernel)
theorem q_5184 : Cond.constant RL 7 (2147483647) ∈ GW := mem_gw 184 (by decide +kernel) (by decide +kernel)
theorem q_5185 : Cond.methodLink RL 51 yL_does ∈ GW := mem_gw 185 (by decide +kernel) (by decide +kernel)
theorem q_5186 : Cond.static yL_does ∈ GW := mem_gw 186 (by decide +kernel) (by decide +kernel)
theorem q_5187 : Cond.codeWith yL_does cL_does 5 (some .int) [(0, 59, 60, 30), (0, 59, 65, 33), (0, 59, 70, 35), (0, 59, 75, 37)] ∈ GW := mem_gw 187 (by decide +kernel) (by decide +kernel)
theorem q_5188 : Cond.classLink RL 30 "java/lang/IndexOutOfBoundsException" ∈ GW := mem_gw 188 (by decide +kernel) (by decide +kernel)
theorem q_5189 : Cond.classLink RL 33 "java/lang/IllegalArgumentException" ∈ GW := mem_gw 189 (by decide +kernel) (by decide +kernel)
theorem q_5190 : Cond.classLink RL 35 "java/lang/IllegalStateException" ∈ GW := mem_gw 190 (by decide +kernel) (by decide +kernel)
theorem q_5191 : Cond.classLink RL 37 "java/util/NoSuchElementException" ∈ GW := mem_gw 191 (by decide +kernel) (by decide +kernel)
theorem q_5192 : Cond.methodLink RL 8 yX2_step ∈ GW := mem_gw 192 (by decide +kernel) (by decide +kernel)
theorem q_357 : Cond.instanceMethod yX2_step ∈ GW := mem_gw 193 (by decide +kernel) (by decide +kernel)
theorem q_358 : Cond.selects RX2 yX2_step yX2_step ∈ GW := mem_gw 194 (by decide +kernel) (by decide +kernel)
theorem q_359 : Cond.code yX2_step cX2_step 3 (some .int) ∈ GW := mem_gw 195 (by decide +kernel) (by decide +kernel)
theorem q_360 : Cond.classLink RX2 79 "java/lang/IllegalArgumentException" ∈ GW := mem_gw 196 (by decide +kernel) (by decide +kernel)
theorem q_361 : Cond.instantiable "java/lang/IllegalArgumentException" 6 ∈ GW := mem_gw 197 (by decide +kernel) (by decide +kernel)
theorem q_363 : Cond.selects "java/lang/IllegalArgumentException" ⟨"java/lang/Throwable", "fillInStackTrace", "(I)Ljava/lang/Throwable;"⟩ ⟨"java/lang/Throwable", "fillInStackTrace", "(I)Ljava/lang/Throwable;"⟩ ∈ GW := mem_gw 205 (by decide +kernel) (by decide +kernel)
theorem q_282 : Cond.selects "java/lang/IllegalArgumentException" ⟨"java/lang/Throwable", "fillInStackTrace", "()Ljava/lang/Throwable;"⟩ ⟨"java/lang/Throwable", "fillInStackTrace", "()Ljava/lang/Throwable;"⟩ ∈ GW := mem_gw 206 (by decide +kernel) (by decide +kernel)
theorem q_364 : Cond.lays "java/lang/IllegalArgumentException" "java/lang/Throwable" "cause" "Ljava/lang/Throwable;" ∈ GW := mem_gw 207 (by decide +kernel) (by decide +kernel)
theorem q_261 : Cond.lays "java/lang/Throwable" "java/lang/Throwable" "cause" "Ljava/lang/Throwable;" ∈ GW := mem_gw 208 (by decide +kernel) (by decide +kernel)
theorem q_365 : Cond.lays "java/lang/IllegalArgumentException" "java/lang/Throwable" "stackTrace" "[Ljava/lang/StackTraceElement;" ∈ GW := mem_gw 209 (by decide +kernel) (by decide +kernel)
theorem q_263 : Cond.lays "java/lang/Throwable" "java/lang/Throwable" "stackTrace" "[Ljava/lang/StackTraceElement;" ∈ GW := mem_gw 210 (by decide +kernel) (by decide +kernel)
theorem q_366 : Cond.lays "java/lang/IllegalArgumentException" "java/lang/Throwable" "suppressedExceptions" "Ljava/util/List;" ∈ GW := mem_gw 211 (by decide +kernel) (by decide +kernel)
theorem q_265 : Cond.lays "java/lang/Throwable" "java/lang/Throwable" "suppressedExceptions" "Ljava/util/List;" ∈ GW := mem_gw 212 (by decide +kernel) (by decide +kernel)
theorem q_367 : Cond.lays "java/lang/IllegalArgumentException" "java/lang/Throwable" "detailMessage" "Ljava/lang/String;" ∈ GW := mem_gw 213 (by decide +kernel) (by decide +kernel)
theorem q_267 : Cond.lays "java/lang/Throwable" "java/lang/Throwable" "detailMessage" "Ljava/lang/String;" ∈ GW := mem_gw 214 (by decide +kernel) (by decide +kernel)
theorem q_368 : Cond.lays "java/lang/IllegalArgumentException" "java/lang/Throwable" "backtrace" "Ljava/lang/Object;" ∈ GW := mem_gw 215 (by decide +kernel) (by decide +kernel)
theorem q_269 : Cond.lays "java/lang/Throwable" "java/lang/Throwable" "backtrace" "Ljava/lang/Object;" ∈ GW := mem_gw 216 (by decide +kernel) (by decide +kernel)
theorem q_304 : Cond.fieldLink "java/lang/Throwable" 198 "java/lang/Throwable" "backtrace" "Ljava/lang/Object;" ∈ GW := mem_gw 217 (by decide +kernel) (by decide +kernel)
theorem q_272 : Cond.instanceMethod ⟨"java/lang/Throwable", "<init>", "()V"⟩ ∈ GW := mem_gw 219 (by decide +kernel) (by decide +kernel)
theorem q_273 : Cond.code ⟨"java/lang/Throwable", "<init>", "()V"⟩ prog_14_method_1_code 1 none ∈ GW := mem_gw 220 (by decide +kernel) (by decide +kernel)
theorem q_274 : Cond.methodLink "java/lang/Throwable" 1 ⟨"java/lang/Object", "<init>", "()V"⟩ ∈ GW := mem_gw 221 (by decide +kernel) (by decide +kernel)
theorem q_275 : Cond.fieldLink "java/lang/Throwable" 13 "java/lang/Throwable" "UNASSIGNED_STACK" "[Ljava/lang/StackTraceElement;" ∈ GW := mem_gw 222 (by decide +kernel) (by decide +kernel)
theorem q_277 : Cond.fieldLink "java/lang/Throwable" 20 "java/lang/Throwable" "SUPPRESSED_SENTINEL" "Ljava/util/List;" ∈ GW := mem_gw 224 (by decide +kernel) (by decide +kernel)
theorem q_279 : Cond.methodLink "java/lang/Throwable" 27 ⟨"java/lang/Throwable", "fillInStackTrace", "()Ljava/lang/Throwable;"⟩ ∈ GW := mem_gw 226 (by decide +kernel) (by decide +kernel)
theorem q_280 : Cond.instanceMethod ⟨"java/lang/Throwable", "fillInStackTrace", "()Ljava/lang/Throwable;"⟩ ∈ GW := mem_gw 227 (by decide +kernel) (by decide +kernel)
theorem q_283 : Cond.selects "java/lang/IllegalStateException" ⟨"java/lang/Throwable", "fillInStackTrace", "()Ljava/lang/Throwable;"⟩ ⟨"java/lang/Throwable", "fillInStackTrace", "()Ljava/lang/Throwable;"⟩ ∈ GW := mem_gw 229 (by decide +kernel) (by decide +kernel)
theorem q_259 : Cond.selects "java/lang/IndexOutOfBoundsException" ⟨"java/lang/Throwable", "fillInStackTrace", "()Ljava/lang/Throwable;"⟩ ⟨"java/lang/Throwable", "fillInStackTrace", "()Ljava/lang/Throwable;"⟩ ∈ GW := mem_gw 230 (by decide +kernel) (by decide +kernel)
theorem q_284 : Cond.selects "java/util/NoSuchElementException" ⟨"java/lang/Throwable", "fillInStackTrace", "()Ljava/lang/Throwable;"⟩ ⟨"java/lang/Throwable", "fillInStackTrace", "()Ljava/lang/Throwable;"⟩ ∈ GW := mem_gw 231 (by decide +kernel) (by decide +kernel)
theorem q_286 : Cond.methodLink "java/lang/Throwable" 202 ⟨"java/lang/Throwable", "fillInStackTrace", "(I)Ljava/lang/Throwable;"⟩ ∈ GW := mem_gw 233 (by decide +kernel) (by decide +kernel)
theorem q_288 : Cond.instanceMethod ⟨"java/lang/Throwable", "fillInStackTrace", "(I)Ljava/lang/Throwable;"⟩ ∈ GW := mem_gw 235 (by decide +kernel) (by decide +kernel)
theorem q_289 : Cond.instantiable "java/lang/Throwable" 6 ∈ GW := mem_gw 236 (by decide +kernel) (by decide +kernel)
theorem q_370 : Cond.methodLink RX2 83 ⟨"java/lang/IllegalArgumentException", "<init>", "(Ljava/lang/String;)V"⟩ ∈ GW := mem_gw 239 (by decide +kernel) (by decide +kernel)
theorem q_371 : Cond.instanceMethod ⟨"java/lang/IllegalArgumentException", "<init>", "(Ljava/lang/String;)V"⟩ ∈ GW := mem_gw 240 (by decide +kernel) (by decide +kernel)
theorem q_372 : Cond.code ⟨"java/lang/IllegalArgumentException", "<init>", "(Ljava/lang/String;)V"⟩ prog_8_method_2_code 2 none ∈ GW := mem_gw 241 (by decide +kernel) (by decide +kernel)
theorem q_373 : Cond.methodLink "java/lang/IllegalArgumentException" 7 ⟨"java/lang/RuntimeException", "<init>", "(Ljava/lang/String;)V"⟩ ∈ GW := mem_gw 242 (by decide +kernel) (by decide +kernel)
theorem q_296 : Cond.instanceMethod ⟨"java/lang/RuntimeException", "<init>", "(Ljava/lang/String;)V"⟩ ∈ GW := mem_gw 243 (by decide +kernel) (by decide +kernel)
theorem q_297 : Cond.code ⟨"java/lang/RuntimeException", "<init>", "(Ljava/lang/String;)V"⟩ prog_12_method_2_code 2 none ∈ GW := mem_gw 244 (by decide +kernel) (by decide +kernel)
theorem q_298 : Cond.methodLink "java/lang/RuntimeException" 7 ⟨"java/lang/Exception", "<init>", "(Ljava/lang/String;)V"⟩ ∈ GW := mem_gw 245 (by decide +kernel) (by decide +kernel)
theorem q_299 : Cond.instanceMethod ⟨"java/lang/Exception", "<init>", "(Ljava/lang/String;)V"⟩ ∈ GW := mem_gw 246 (by decide +kernel) (by decide +kernel)
theorem q_300 : Cond.code ⟨"java/lang/Exception", "<init>", "(Ljava/lang/String;)V"⟩ prog_7_method_2_code 2 none ∈ GW := mem_gw 247 (by decide +kernel) (by decide +kernel)
theorem q_301 : Cond.methodLink "java/lang/Exception" 7 ⟨"java/lang/Throwable", "<init>", "(Ljava/lang/String;)V"⟩ ∈ GW := mem_gw 248 (by decide +kernel) (by decide +kernel)
theorem q_302 : Cond.instanceMethod ⟨"java/lang/Throwable", "<init>", "(Ljava/lang/String;)V"⟩ ∈ GW := mem_gw 249 (by decide +kernel) (by decide +kernel)
theorem q_303 : Cond.code ⟨"java/lang/Throwable", "<init>", "(Ljava/lang/String;)V"⟩ prog_14_method_2_code 2 none ∈ GW := mem_gw 250 (by decide +kernel) (by decide +kernel)
theorem q_305 : Cond.fieldLink "java/lang/Throwable" 31 "java/lang/Throwable" "detailMessage" "Ljava/lang/String;" ∈ GW := mem_gw 252 (by decide +kernel) (by decide +kernel)
theorem q_306 : Cond.fieldLink "java/lang/Throwable" 7 "java/lang/Throwable" "cause" "Ljava/lang/Throwable;" ∈ GW := mem_gw 253 (by decide +kernel) (by decide +kernel)
theorem q_307 : Cond.fieldLink "java/lang/Throwable" 17 "java/lang/Throwable" "stackTrace" "[Ljava/lang/StackTraceElement;" ∈ GW := mem_gw 254 (by decide +kernel) (by decide +kernel)
theorem q_308 : Cond.fieldLink "java/lang/Throwable" 24 "java/lang/Throwable" "suppressedExceptions" "Ljava/util/List;" ∈ GW := mem_gw 255 (by decide +kernel) (by decide +kernel)
theorem q_374 : Cond.lays "java/lang/IllegalArgumentException" "java/lang/Throwable" "depth" "I" ∈ GW := mem_gw 260 (by decide +kernel) (by decide +kernel)
theorem q_317 : Cond.arrayClass .byte ∈ GW := mem_gw 264 (by decide +kernel) (by decide +kernel)
theorem q_376 : Cond.methodLink RX2 84 yX2_afterStep ∈ GW := mem_gw 265 (by decide +kernel) (by decide +kernel)
theorem q_378 : Cond.instanceMethod yX2_afterStep ∈ GW := mem_gw 267 (by decide +kernel) (by decide +kernel)
theorem q_379 : Cond.code yX2_afterStep cX2_afterStep 4 (some .int) ∈ GW := mem_gw 268 (by decide +kernel) (by decide +kernel)
theorem q_202 : Cond.methodLink RX2 101 yX1_distanceOf ∈ GW := mem_gw 269 (by decide +kernel) (by decide +kernel)
theorem q_228 : Cond.methodLink RX2 160 yX2_isWithinLimit ∈ GW := mem_gw 270 (by decide +kernel) (by decide +kernel)
theorem q_230 : Cond.instanceMethod yX2_isWithinLimit ∈ GW := mem_gw 272 (by decide +kernel) (by decide +kernel)
theorem q_231 : Cond.code yX2_isWithinLimit cX2_isWithinLimit 2 (some .boolean) ∈ GW := mem_gw 273 (by decide +kernel) (by decide +kernel)
theorem q_323 : Cond.classLink RX2 63 "java/lang/IllegalStateException" ∈ GW := mem_gw 274 (by decide +kernel) (by decide +kernel)
theorem q_324 : Cond.instantiable "java/lang/IllegalStateException" 6 ∈ GW := mem_gw 275 (by decide +kernel) (by decide +kernel)
theorem q_326 : Cond.selects "java/lang/IllegalStateException" ⟨"java/lang/Throwable", "fillInStackTrace", "(I)Ljava/lang/Throwable;"⟩ ⟨"java/lang/Throwable", "fillInStackTrace", "(I)Ljava/lang/Throwable;"⟩ ∈ GW := mem_gw 277 (by decide +kernel) (by decide +kernel)
theorem q_327 : Cond.lays "java/lang/IllegalStateException" "java/lang/Throwable" "cause" "Ljava/lang/Throwable;" ∈ GW := mem_gw 278 (by decide +kernel) (by decide +kernel)
theorem q_328 : Cond.lays "java/lang/IllegalStateException" "java/lang/Throwable" "stackTrace" "[Ljava/lang/StackTraceElement;" ∈ GW := mem_gw 279 (by decide +kernel) (by decide +kernel)
theorem q_329 : Cond.lays "java/lang/IllegalStateException" "java/lang/Throwable" "suppressedExceptions" "Ljava/util/List;" ∈ GW := mem_gw 280 (by decide +kernel) (by decide +kernel)
theorem q_330 : Cond.lays "java/lang/IllegalStateException" "java/lang/Throwable" "detailMessage" "Ljava/lang/String;" ∈ GW := mem_gw 281 (by decide +kernel) (by decide +kernel)
theorem q_331 : Cond.lays "java/lang/IllegalStateException" "java/lang/Throwable" "backtrace" "Ljava/lang/Object;" ∈ GW := mem_gw 282 (by decide +kernel) (by decide +kernel)
theorem q_333 : Cond.methodLink RX2 67 ⟨"java/lang/IllegalStateException", "<init>", "(Ljava/lang/String;)V"⟩ ∈ GW := mem_gw 284 (by decide +kernel) (by decide +kernel)
theorem q_334 : Cond.instanceMethod ⟨"java/lang/IllegalStateException", "<init>", "(Ljava/lang/String;)V"⟩ ∈ GW := mem_gw 285 (by decide +kernel) (by decide +kernel)
theorem q_335 : Cond.code ⟨"java/lang/IllegalStateException", "<init>", "(Ljava/lang/String;)V"⟩ prog_9_method_2_code 2 none ∈ GW := mem_gw 286 (by decide +kernel) (by decide +kernel)
theorem q_336 : Cond.methodLink "java/lang/IllegalStateException" 7 ⟨"java/lang/RuntimeException", "<init>", "(Ljava/lang/String;)V"⟩ ∈ GW := mem_gw 287 (by decide +kernel) (by decide +kernel)
theorem q_337 : Cond.lays "java/lang/IllegalStateException" "java/lang/Throwable" "depth" "I" ∈ GW := mem_gw 288 (by decide +kernel) (by decide +kernel)
theorem q_207 : Cond.methodLink RX2 89 yX2_length ∈ GW := mem_gw 290 (by decide +kernel) (by decide +kernel)
theorem q_199 : Cond.instanceMethod yX2_length ∈ GW := mem_gw 291 (by decide +kernel) (by decide +kernel)
theorem q_200 : Cond.selects RX2 yX2_length yX2_length ∈ GW := mem_gw 292 (by decide +kernel) (by decide +kernel)
theorem q_201 : Cond.code yX2_length cX2_length 1 (some .int) ∈ GW := mem_gw 293 (by decide +kernel) (by decide +kernel)
theorem q_5294 : Cond.methodLink RL 14 yX2_back ∈ GW := mem_gw 294 (by decide +kernel) (by decide +kernel)
theorem q_413 : Cond.instanceMethod yX2_back ∈ GW := mem_gw 295 (by decide +kernel) (by decide +kernel)
theorem q_414 : Cond.selects RX2 yX2_back yX2_back ∈ GW := mem_gw 296 (by decide +kernel) (by decide +kernel)
theorem q_415 : Cond.code yX2_back cX2_back 3 (some .int) ∈ GW := mem_gw 297 (by decide +kernel) (by decide +kernel)
theorem q_417 : Cond.methodLink RX2 111 yX2_alongCable ∈ GW := mem_gw 299 (by decide +kernel) (by decide +kernel)
theorem q_419 : Cond.instanceMethod yX2_alongCable ∈ GW := mem_gw 301 (by decide +kernel) (by decide +kernel)
theorem q_420 : Cond.code yX2_alongCable cX2_alongCable 4 (some .int) ∈ GW := mem_gw 302 (by decide +kernel) (by decide +kernel)
theorem q_216 : Cond.methodLink RX2 148 yX2_cableDirection ∈ GW := mem_gw 303 (by decide +kernel) (by decide +kernel)
theorem q_218 : Cond.instanceMethod yX2_cableDirection ∈ GW := mem_gw 305 (by decide +kernel) (by decide +kernel)
theorem q_219 : Cond.code yX2_cableDirection cX2_cableDirection 4 (some .int) ∈ GW := mem_gw 306 (by decide +kernel) (by decide +kernel)
theorem q_5307 : Cond.methodLink RL 17 yX2_pillar ∈ GW := mem_gw 307 (by decide +kernel) (by decide +kernel)
theorem q_241 : Cond.instanceMethod yX2_pillar ∈ GW := mem_gw 308 (by decide +kernel) (by decide +kernel)
theorem q_242 : Cond.selects RX2 yX2_pillar yX2_pillar ∈ GW := mem_gw 309 (by decide +kernel) (by decide +kernel)
theorem q_243 : Cond.code yX2_pillar cX2_pillar 6 (some .int) ∈ GW := mem_gw 310 (by decide +kernel) (by decide +kernel)
theorem q_244 : Cond.methodLink RX2 52 yX2_requireSquare ∈ GW := mem_gw 311 (by decide +kernel) (by decide +kernel)
theorem q_246 : Cond.instanceMethod yX2_requireSquare ∈ GW := mem_gw 313 (by decide +kernel) (by decide +kernel)
theorem q_247 : Cond.code yX2_requireSquare cX2_requireSquare 3 none ∈ GW := mem_gw 314 (by decide +kernel) (by decide +kernel)
theorem q_248 : Cond.methodLink RX2 179 yX0_has ∈ GW := mem_gw 315 (by decide +kernel) (by decide +kernel)
theorem q_249 : Cond.classLink RX2 132 "java/lang/IndexOutOfBoundsException" ∈ GW := mem_gw 316 (by decide +kernel) (by decide +kernel)
theorem q_250 : Cond.instantiable "java/lang/IndexOutOfBoundsException" 6 ∈ GW := mem_gw 317 (by decide +kernel) (by decide +kernel)
theorem q_258 : Cond.selects "java/lang/IndexOutOfBoundsException" ⟨"java/lang/Throwable", "fillInStackTrace", "(I)Ljava/lang/Throwable;"⟩ ⟨"java/lang/Throwable", "fillInStackTrace", "(I)Ljava/lang/Throwable;"⟩ ∈ GW := mem_gw 319 (by decide +kernel) (by decide +kernel)
theorem q_260 : Cond.lays "java/lang/IndexOutOfBoundsException" "java/lang/Throwable" "cause" "Ljava/lang/Throwable;" ∈ GW := mem_gw 320 (by decide +kernel) (by decide +kernel)
theorem q_262 : Cond.lays "java/lang/IndexOutOfBoundsException" "java/lang/Throwable" "stackTrace" "[Ljava/lang/StackTraceElement;" ∈ GW := mem_gw 321 (by decide +kernel) (by decide +kernel)
theorem q_264 : Cond.lays "java/lang/IndexOutOfBoundsException" "java/lang/Throwable" "suppressedExceptions" "Ljava/util/List;" ∈ GW := mem_gw 322 (by decide +kernel) (by decide +kernel)
theorem q_266 : Cond.lays "java/lang/IndexOutOfBoundsException" "java/lang/Throwable" "detailMessage" "Ljava/lang/String;" ∈ GW := mem_gw 323 (by decide +kernel) (by decide +kernel)
theorem q_268 : Cond.lays "java/lang/IndexOutOfBoundsException" "java/lang/Throwable" "backtrace" "Ljava/lang/Object;" ∈ GW := mem_gw 324 (by decide +kernel) (by decide +kernel)
theorem q_292 : Cond.methodLink RX2 136 ⟨"java/lang/IndexOutOfBoundsException", "<init>", "(Ljava/lang/String;)V"⟩ ∈ GW := mem_gw 326 (by decide +kernel) (by decide +kernel)
theorem q_293 : Cond.instanceMethod ⟨"java/lang/IndexOutOfBoundsException", "<init>", "(Ljava/lang/String;)V"⟩ ∈ GW := mem_gw 327 (by decide +kernel) (by decide +kernel)
theorem q_294 : Cond.code ⟨"java/lang/IndexOutOfBoundsException", "<init>", "(Ljava/lang/String;)V"⟩ prog_10_method_2_code 2 none ∈ GW := mem_gw 328 (by decide +kernel) (by decide +kernel)
theorem q_295 : Cond.methodLink "java/lang/IndexOutOfBoundsException" 7 ⟨"java/lang/RuntimeException", "<init>", "(Ljava/lang/String;)V"⟩ ∈ GW := mem_gw 329 (by decide +kernel) (by decide +kernel)
theorem q_313 : Cond.lays "java/lang/IndexOutOfBoundsException" "java/lang/Throwable" "depth" "I" ∈ GW := mem_gw 330 (by decide +kernel) (by decide +kernel)
theorem q_318 : Cond.methodLink RX2 55 yX0_isFull ∈ GW := mem_gw 332 (by decide +kernel) (by decide +kernel)
theorem q_319 : Cond.instanceMethod yX0_isFull ∈ GW := mem_gw 333 (by decide +kernel) (by decide +kernel)
theorem q_320 : Cond.selects RX0 yX0_isFull yX0_isFull ∈ GW := mem_gw 334 (by decide +kernel) (by decide +kernel)
theorem q_321 : Cond.code yX0_isFull cX0_isFull 1 (some .boolean) ∈ GW := mem_gw 335 (by decide +kernel) (by decide +kernel)
theorem q_322 : Cond.methodLink RX2 59 yX0_isPillar ∈ GW := mem_gw 336 (by decide +kernel) (by decide +kernel)
theorem q_339 : Cond.methodLink RX2 70 yX0_setPillar ∈ GW := mem_gw 338 (by decide +kernel) (by decide +kernel)
theorem q_340 : Cond.instanceMethod yX0_setPillar ∈ GW := mem_gw 339 (by decide +kernel) (by decide +kernel)
theorem q_341 : Cond.selects RX0 yX0_setPillar yX0_setPillar ∈ GW := mem_gw 340 (by decide +kernel) (by decide +kernel)
theorem q_342 : Cond.code yX0_setPillar cX0_setPillar 3 (some .int) ∈ GW := mem_gw 341 (by decide +kernel) (by decide +kernel)
theorem q_343 : Cond.methodLink RX0 35 yX0_isFull ∈ GW := mem_gw 342 (by decide +kernel) (by decide +kernel)
theorem q_5343 : Cond.methodLink RL 21 yL_base ∈ GW := mem_gw 343 (by decide +kernel) (by decide +kernel)
theorem q_5344 : Cond.static yL_base ∈ GW := mem_gw 344 (by decide +kernel) (by decide +kernel)
theorem q_5345 : Cond.code yL_base cL_base 3 (some .int) ∈ GW := mem_gw 345 (by decide +kernel) (by decide +kernel)
theorem q_5346 : Cond.methodLink RL 39 yX2_base ∈ GW := mem_gw 346 (by decide +kernel) (by decide +kernel)
theorem q_348 : Cond.instanceMethod yX2_base ∈ GW := mem_gw 347 (by decide +kernel) (by decide +kernel)
theorem q_349 : Cond.selects RX2 yX2_base yX2_base ∈ GW := mem_gw 348 (by decide +kernel) (by decide +kernel)
theorem q_350 : Cond.code yX2_base cX2_base 4 none ∈ GW := mem_gw 349 (by decide +kernel) (by decide +kernel)
theorem q_5351 : Cond.methodLink RL 27 yX2_go ∈ GW := mem_gw 351 (by decide +kernel) (by decide +kernel)
theorem q_386 : Cond.instanceMethod yX2_go ∈ GW := mem_gw 352 (by decide +kernel) (by decide +kernel)
theorem q_387 : Cond.selects RX2 yX2_go yX2_go ∈ GW := mem_gw 353 (by decide +kernel) (by decide +kernel)
theorem q_388 : Cond.code yX2_go cX2_go 5 (some .int) ∈ GW := mem_gw 354 (by decide +kernel) (by decide +kernel)
theorem q_389 : Cond.methodLink RX2 93 yX2_nearestPlaceOf ∈ GW := mem_gw 355 (by decide +kernel) (by decide +kernel)
theorem q_391 : Cond.instanceMethod yX2_nearestPlaceOf ∈ GW := mem_gw 357 (by decide +kernel) (by decide +kernel)
theorem q_392 : Cond.code yX2_nearestPlaceOf cX2_nearestPlaceOf 5 (some .int) ∈ GW := mem_gw 358 (by decide +kernel) (by decide +kernel)
theorem q_183 : Cond.methodLink RX2 114 yX2_squareOf ∈ GW := mem_gw 359 (by decide +kernel) (by decide +kernel)
theorem q_393 : Cond.classLink RX2 96 "java/util/NoSuchElementException" ∈ GW := mem_gw 360 (by decide +kernel) (by decide +kernel)
theorem q_394 : Cond.instantiable "java/util/NoSuchElementException" 6 ∈ GW := mem_gw 361 (by decide +kernel) (by decide +kernel)
theorem q_396 : Cond.selects "java/util/NoSuchElementException" ⟨"java/lang/Throwable", "fillInStackTrace", "(I)Ljava/lang/Throwable;"⟩ ⟨"java/lang/Throwable", "fillInStackTrace", "(I)Ljava/lang/Throwable;"⟩ ∈ GW := mem_gw 363 (by decide +kernel) (by decide +kernel)
theorem q_397 : Cond.lays "java/util/NoSuchElementException" "java/lang/Throwable" "cause" "Ljava/lang/Throwable;" ∈ GW := mem_gw 364 (by decide +kernel) (by decide +kernel)
theorem q_398 : Cond.lays "java/util/NoSuchElementException" "java/lang/Throwable" "stackTrace" "[Ljava/lang/StackTraceElement;" ∈ GW := mem_gw 365 (by decide +kernel) (by decide +kernel)
theorem q_399 : Cond.lays "java/util/NoSuchElementException" "java/lang/Throwable" "suppressedExceptions" "Ljava/util/List;" ∈ GW := mem_gw 366 (by decide +kernel) (by decide +kernel)
theorem q_400 : Cond.lays "java/util/NoSuchElementException" "java/lang/Throwable" "detailMessage" "Ljava/lang/String;" ∈ GW := mem_gw 367 (by decide +kernel) (by decide +kernel)
theorem q_401 : Cond.lays "java/util/NoSuchElementException" "java/lang/Throwable" "backtrace" "Ljava/lang/Object;" ∈ GW := mem_gw 368 (by decide +kernel) (by decide +kernel)
theorem q_403 : Cond.methodLink RX2 100 ⟨"java/util/NoSuchElementException", "<init>", "(Ljava/lang/String;)V"⟩ ∈ GW := mem_gw 370 (by decide +kernel) (by decide +kernel)
theorem q_404 : Cond.instanceMethod ⟨"java/util/NoSuchElementException", "<init>", "(Ljava/lang/String;)V"⟩ ∈ GW := mem_gw 371 (by decide +kernel) (by decide +kernel)
theorem q_405 : Cond.code ⟨"java/util/NoSuchElementException", "<init>", "(Ljava/lang/String;)V"⟩ prog_16_method_4_code 2 none ∈ GW := mem_gw 372 (by decide +kernel) (by decide +kernel)
theorem q_406 : Cond.methodLink "java/util/NoSuchElementException" 13 ⟨"java/lang/RuntimeException", "<init>", "(Ljava/lang/String;)V"⟩ ∈ GW := mem_gw 373 (by decide +kernel) (by decide +kernel)
theorem q_407 : Cond.lays "java/util/NoSuchElementException" "java/lang/Throwable" "depth" "I" ∈ GW := mem_gw 374 (by decide +kernel) (by decide +kernel)
theorem q_5376 : Cond.constant RL 32 (-99999) ∈ GW := mem_gw 376 (by decide +kernel) (by decide +kernel)
theorem q_5377 : Cond.methodLink RL 104 yL_act ∈ GW := mem_gw 377 (by decide +kernel) (by decide +kernel)
theorem q_5378 : Cond.static yL_act ∈ GW := mem_gw 378 (by decide +kernel) (by decide +kernel)
theorem q_5379 : Cond.code yL_act cL_act 8 (some .int) ∈ GW := mem_gw 379 (by decide +kernel) (by decide +kernel)
theorem q_5380 : Cond.methodLink RL 107 yL_areAlike ∈ GW := mem_gw 380 (by decide +kernel) (by decide +kernel)
theorem q_5381 : Cond.static yL_areAlike ∈ GW := mem_gw 381 (by decide +kernel) (by decide +kernel)
theorem q_5382 : Cond.code yL_areAlike cL_areAlike 4 (some .boolean) ∈ GW := mem_gw 382 (by decide +kernel) (by decide +kernel)
theorem q_5383 : Cond.methodLink RL 55 yX2_column ∈ GW := mem_gw 383 (by decide +kernel) (by decide +kernel)
theorem q_180 : Cond.instanceMethod yX2_column ∈ GW := mem_gw 384 (by decide +kernel) (by decide +kernel)
theorem q_181 : Cond.selects RX2 yX2_column yX2_column ∈ GW := mem_gw 385 (by decide +kernel) (by decide +kernel)
theorem q_182 : Cond.code yX2_column cX2_column 1 (some .int) ∈ GW := mem_gw 386 (by decide +kernel) (by decide +kernel)
theorem q_184 : Cond.methodLink RX2 117 yX2_columnOf ∈ GW := mem_gw 387 (by decide +kernel) (by decide +kernel)
theorem q_5388 : Cond.methodLink RL 59 yX2_row ∈ GW := mem_gw 388 (by decide +kernel) (by decide +kernel)
theorem q_186 : Cond.instanceMethod yX2_row ∈ GW := mem_gw 389 (by decide +kernel) (by decide +kernel)
theorem q_187 : Cond.selects RX2 yX2_row yX2_row ∈ GW := mem_gw 390 (by decide +kernel) (by decide +kernel)
theorem q_188 : Cond.code yX2_row cX2_row 1 (some .int) ∈ GW := mem_gw 391 (by decide +kernel) (by decide +kernel)
theorem q_189 : Cond.methodLink RX2 120 yX2_rowOf ∈ GW := mem_gw 392 (by decide +kernel) (by decide +kernel)
theorem q_5393 : Cond.methodLink RL 62 yX2_letters ∈ GW := mem_gw 393 (by decide +kernel) (by decide +kernel)
theorem q_191 : Cond.instanceMethod yX2_letters ∈ GW := mem_gw 394 (by decide +kernel) (by decide +kernel)
theorem q_192 : Cond.selects RX2 yX2_letters yX2_letters ∈ GW := mem_gw 395 (by decide +kernel) (by decide +kernel)
theorem q_193 : Cond.code yX2_letters cX2_letters 1 (some .int) ∈ GW := mem_gw 396 (by decide +kernel) (by decide +kernel)
theorem q_194 : Cond.methodLink RX2 123 yX2_wordOf ∈ GW := mem_gw 397 (by decide +kernel) (by decide +kernel)
theorem q_195 : Cond.methodLink RX2 126 yX2_lettersOf ∈ GW := mem_gw 398 (by decide +kernel) (by decide +kernel)
theorem q_196 : Cond.static yX2_lettersOf ∈ GW := mem_gw 399 (by decide +kernel) (by decide +kernel)
theorem q_197 : Cond.code yX2_lettersOf cX2_lettersOf 3 (some .int) ∈ GW := mem_gw 400 (by decide +kernel) (by decide +kernel)
theorem q_5401 : Cond.methodLink RL 65 yX2_length ∈ GW := mem_gw 401 (by decide +kernel) (by decide +kernel)
theorem q_5402 : Cond.methodLink RL 68 yX2_slack ∈ GW := mem_gw 402 (by decide +kernel) (by decide +kernel)
theorem q_204 : Cond.instanceMethod yX2_slack ∈ GW := mem_gw 403 (by decide +kernel) (by decide +kernel)
theorem q_205 : Cond.selects RX2 yX2_slack yX2_slack ∈ GW := mem_gw 404 (by decide +kernel) (by decide +kernel)
theorem q_206 : Cond.code yX2_slack cX2_slack 1 (some .int) ∈ GW := mem_gw 405 (by decide +kernel) (by decide +kernel)
theorem q_5406 : Cond.methodLink RL 71 yX2_steps ∈ GW := mem_gw 406 (by decide +kernel) (by decide +kernel)
theorem q_209 : Cond.instanceMethod yX2_steps ∈ GW := mem_gw 407 (by decide +kernel) (by decide +kernel)
theorem q_210 : Cond.selects RX2 yX2_steps yX2_steps ∈ GW := mem_gw 408 (by decide +kernel) (by decide +kernel)
theorem q_211 : Cond.code yX2_steps cX2_steps 1 (some .int) ∈ GW := mem_gw 409 (by decide +kernel) (by decide +kernel)
theorem q_5410 : Cond.methodLink RL 74 yX2_bends ∈ GW := mem_gw 410 (by decide +kernel) (by decide +kernel)
theorem q_213 : Cond.instanceMethod yX2_bends ∈ GW := mem_gw 411 (by decide +kernel) (by decide +kernel)
theorem q_214 : Cond.selects RX2 yX2_bends yX2_bends ∈ GW := mem_gw 412 (by decide +kernel) (by decide +kernel)
theorem q_215 : Cond.code yX2_bends cX2_bends 6 (some .int) ∈ GW := mem_gw 413 (by decide +kernel) (by decide +kernel)
theorem q_5414 : Cond.methodLink RL 77 yX2_squares ∈ GW := mem_gw 414 (by decide +kernel) (by decide +kernel)
theorem q_221 : Cond.instanceMethod yX2_squares ∈ GW := mem_gw 415 (by decide +kernel) (by decide +kernel)
theorem q_222 : Cond.selects RX2 yX2_squares yX2_squares ∈ GW := mem_gw 416 (by decide +kernel) (by decide +kernel)
theorem q_223 : Cond.code yX2_squares cX2_squares 3 (some .int) ∈ GW := mem_gw 417 (by decide +kernel) (by decide +kernel)
theorem q_224 : Cond.methodLink RX2 154 yX2_leastLengthOf ∈ GW := mem_gw 418 (by decide +kernel) (by decide +kernel)
theorem q_226 : Cond.instanceMethod yX2_leastLengthOf ∈ GW := mem_gw 420 (by decide +kernel) (by decide +kernel)
theorem q_227 : Cond.code yX2_leastLengthOf cX2_leastLengthOf 5 (some .int) ∈ GW := mem_gw 421 (by decide +kernel) (by decide +kernel)
theorem q_5422 : Cond.methodLink RL 80 yL_letterAt ∈ GW := mem_gw 422 (by decide +kernel) (by decide +kernel)
theorem q_5423 : Cond.static yL_letterAt ∈ GW := mem_gw 423 (by decide +kernel) (by decide +kernel)
theorem q_5424 : Cond.codeWith yL_letterAt cL_letterAt 3 (some .int) [(0, 5, 6, 30)] ∈ GW := mem_gw 424 (by decide +kernel) (by decide +kernel)
theorem q_5425 : Cond.methodLink RL 45 yX2_letterAt ∈ GW := mem_gw 425 (by decide +kernel) (by decide +kernel)
theorem q_425 : Cond.instanceMethod yX2_letterAt ∈ GW := mem_gw 426 (by decide +kernel) (by decide +kernel)
theorem q_426 : Cond.selects RX2 yX2_letterAt yX2_letterAt ∈ GW := mem_gw 427 (by decide +kernel) (by decide +kernel)
theorem q_427 : Cond.code yX2_letterAt cX2_letterAt 5 (some .int) ∈ GW := mem_gw 428 (by decide +kernel) (by decide +kernel)
theorem q_428 : Cond.methodLink RX2 129 yX2_letters ∈ GW := mem_gw 429 (by decide +kernel) (by decide +kernel)
theorem q_5431 : Cond.methodLink RL 83 yL_cableAt ∈ GW := mem_gw 431 (by decide +kernel) (by decide +kernel)
theorem q_5432 : Cond.static yL_cableAt ∈ GW := mem_gw 432 (by decide +kernel) (by decide +kernel)
theorem q_5433 : Cond.codeWith yL_cableAt cL_cableAt 3 (some .int) [(0, 5, 6, 30)] ∈ GW := mem_gw 433 (by decide +kernel) (by decide +kernel)
theorem q_5434 : Cond.methodLink RL 42 yX2_cableAt ∈ GW := mem_gw 434 (by decide +kernel) (by decide +kernel)
theorem q_451 : Cond.instanceMethod yX2_cableAt ∈ GW := mem_gw 435 (by decide +kernel) (by decide +kernel)
theorem q_452 : Cond.selects RX2 yX2_cableAt yX2_cableAt ∈ GW := mem_gw 436 (by decide +kernel) (by decide +kernel)
theorem q_453 : Cond.code yX2_cableAt cX2_cableAt 3 (some .int) ∈ GW := mem_gw 437 (by decide +kernel) (by decide +kernel)
theorem q_5439 : Cond.methodLink RL 111 yL_isPlaceSo ∈ GW := mem_gw 439 (by decide +kernel) (by decide +kernel)
theorem q_5440 : Cond.static yL_isPlaceSo ∈ GW := mem_gw 440 (by decide +kernel) (by decide +kernel)
theorem q_5441 : Cond.code yL_isPlaceSo cL_isPlaceSo 8 (some .boolean) ∈ GW := mem_gw 441 (by decide +kernel) (by decide +kernel)
theorem q_5442 : Cond.methodLink RL 85 yX2_lengthByTrying ∈ GW := mem_gw 442 (by decide +kernel) (by decide +kernel)
theorem q_434 : Cond.instanceMethod yX2_lengthByTrying ∈ GW := mem_gw 443 (by decide +kernel) (by decide +kernel)
theorem q_435 : Cond.selects RX2 yX2_lengthByTrying yX2_lengthByTrying ∈ GW := mem_gw 444 (by decide +kernel) (by decide +kernel)
theorem q_436 : Cond.code yX2_lengthByTrying cX2_lengthByTrying 3 (some .int) ∈ GW := mem_gw 445 (by decide +kernel) (by decide +kernel)
theorem q_438 : Cond.methodLink RX2 142 yX2_fewestByTrying ∈ GW := mem_gw 447 (by decide +kernel) (by decide +kernel)
theorem q_439 : Cond.static yX2_fewestByTrying ∈ GW := mem_gw 448 (by decide +kernel) (by decide +kernel)
theorem q_440 : Cond.code yX2_fewestByTrying cX2_fewestByTrying 7 (some .int) ∈ GW := mem_gw 449 (by decide +kernel) (by decide +kernel)
theorem q_441 : Cond.methodLink RX2 176 yX2_apart ∈ GW := mem_gw 450 (by decide +kernel) (by decide +kernel)
theorem q_442 : Cond.static yX2_apart ∈ GW := mem_gw 451 (by decide +kernel) (by decide +kernel)
theorem q_443 : Cond.code yX2_apart cX2_apart 2 (some .int) ∈ GW := mem_gw 452 (by decide +kernel) (by decide +kernel)
theorem q_444 : Cond.methodLink RX2 185 yJ9_abs_0f7a4 ∈ GW := mem_gw 453 (by decide +kernel) (by decide +kernel)
theorem q_445 : Cond.static yJ9_abs_0f7a4 ∈ GW := mem_gw 454 (by decide +kernel) (by decide +kernel)
theorem q_446 : Cond.code yJ9_abs_0f7a4 cJ9_abs_0f7a4 1 (some .int) ∈ GW := mem_gw 455 (by decide +kernel) (by decide +kernel)
theorem q_5456 : Cond.methodLink RL 115 yL_areGoalsSo ∈ GW := mem_gw 456 (by decide +kernel) (by decide +kernel)
theorem q_5457 : Cond.static yL_areGoalsSo ∈ GW := mem_gw 457 (by decide +kernel) (by decide +kernel)
theorem q_5458 : Cond.code yL_areGoalsSo cL_areGoalsSo 15 (some .boolean) ∈ GW := mem_gw 458 (by decide +kernel) (by decide +kernel)
theorem q_5459 : Cond.methodLink RL 88 yX2_least ∈ GW := mem_gw 459 (by decide +kernel) (by decide +kernel)
theorem q_459 : Cond.instanceMethod yX2_least ∈ GW := mem_gw 460 (by decide +kernel) (by decide +kernel)
theorem q_460 : Cond.selects RX2 yX2_least yX2_least ∈ GW := mem_gw 461 (by decide +kernel) (by decide +kernel)
theorem q_461 : Cond.code yX2_least cX2_least 3 (some .int) ∈ GW := mem_gw 462 (by decide +kernel) (by decide +kernel)
theorem q_5463 : Cond.methodLink RL 91 yX2_words ∈ GW := mem_gw 463 (by decide +kernel) (by decide +kernel)
theorem q_473 : Cond.instanceMethod yX2_words ∈ GW := mem_gw 464 (by decide +kernel) (by decide +kernel)
theorem q_474 : Cond.selects RX2 yX2_words yX2_words ∈ GW := mem_gw 465 (by decide +kernel) (by decide +kernel)
theorem q_475 : Cond.code yX2_words cX2_words 6 (some .int) ∈ GW := mem_gw 466 (by decide +kernel) (by decide +kernel)
theorem q_5467 : Cond.methodLink RL 94 yX2_missing ∈ GW := mem_gw 467 (by decide +kernel) (by decide +kernel)
theorem q_466 : Cond.instanceMethod yX2_missing ∈ GW := mem_gw 468 (by decide +kernel) (by decide +kernel)
theorem q_467 : Cond.selects RX2 yX2_missing yX2_missing ∈ GW := mem_gw 469 (by decide +kernel) (by decide +kernel)
theorem q_468 : Cond.code yX2_missing cX2_missing 4 (some .int) ∈ GW := mem_gw 470 (by decide +kernel) (by decide +kernel)
theorem q_5471 : Cond.methodLink RL 119 yL_isReturnedSo ∈ GW := mem_gw 471 (by decide +kernel) (by decide +kernel)
theorem q_5472 : Cond.static yL_isReturnedSo ∈ GW := mem_gw 472 (by decide +kernel) (by decide +kernel)
theorem q_5473 : Cond.code yL_isReturnedSo cL_isReturnedSo 11 (some .boolean) ∈ GW := mem_gw 473 (by decide +kernel) (by decide +kernel)
theorem q_1000 : Cond.selects RX2 yX2_measureLengths yX2_measureLengths ∈ GW := mem_gs 0 (by decide +kernel) (by decide +kernel)
theorem q_1001 : Cond.selects RX1 yX1_add yX1_add ∈ GW := mem_gs 1 (by decide +kernel) (by decide +kernel)
theorem q_1002 : Cond.selects RX0 yX0_placeAt yX0_placeAt ∈ GW := mem_gs 2 (by decide +kernel) (by decide +kernel)
theorem q_1003 : Cond.selects RX0 yX0_pillarNumberOf yX0_pillarNumberOf ∈ GW := mem_gs 3 (by decide +kernel) (by decide +kernel)
theorem q_1004 : Cond.selects RX0 yX0_wordToTheRight yX0_wordToTheRight ∈ GW := mem_gs 4 (by decide +kernel) (by decide +kernel)
theorem q_1005 : Cond.selects RX0 yX0_wordToTheLeft yX0_wordToTheLeft ∈ GW := mem_gs 5 (by decide +kernel) (by decide +kernel)
theorem q_1011 : Cond.selects RX2 yX2_afterStep yX2_afterStep ∈ GW := mem_gs 7 (by decide +kernel) (by decide +kernel)
theorem q_1008 : Cond.selects RX2 yX2_isWithinLimit yX2_isWithinLimit ∈ GW := mem_gs 8 (by decide +kernel) (by decide +kernel)
theorem q_1013 : Cond.selects RX2 yX2_alongCable yX2_alongCable ∈ GW := mem_gs 9 (by decide +kernel) (by decide +kernel)
theorem q_1006 : Cond.selects RX2 yX2_cableDirection yX2_cableDirection ∈ GW := mem_gs 10 (by decide +kernel) (by decide +kernel)
theorem q_1009 : Cond.selects RX2 yX2_requireSquare yX2_requireSquare ∈ GW := mem_gs 11 (by decide +kernel) (by decide +kernel)
theorem q_1012 : Cond.selects RX2 yX2_nearestPlaceOf yX2_nearestPlaceOf ∈ GW := mem_gs 12 (by decide +kernel) (by decide +kernel)
theorem q_1007 : Cond.selects RX2 yX2_leastLengthOf yX2_leastLengthOf ∈ GW := mem_gs 13 (by decide +kernel) (by decide +kernel)
theorem uX0 : ∀ w ∈ wsX00, w ∈ GW := by decide +kernel
theorem uX1 : ∀ w ∈ wsX10, w ∈ GW := by decide +kernel
theorem uX2 : ∀ w ∈ wsX20, w ∈ GW := by decide +kernel
end
section
/-! ints as integers: iI z is the int of z -/
def iI (z : Int) : Int32 := Int32.ofInt z
abbrev InR (z : Int) : Prop := -2147483648 ≤ z ∧ z < 2147483648
theorem iI_add (a b : Int) : iI a + iI b = iI (a + b) := (Int32.ofInt_add a b).symm
theorem iI_sub (a b : Int) : iI a - iI b = iI (a - b) := (Int32.ofInt_sub a b).symm
theorem iI_mul (a b : Int) : iI a * iI b = iI (a * b) := (Int32.ofInt_mul a b).symm
theorem iI_neg (a : Int) : -iI a = iI (-a) := (Int32.ofInt_neg a).symm
theorem iI_int {z : Int} (h : InR z) : (iI z).toInt = z := by
  show (Int32.ofInt z).toInt = z
  rw [Int32.toInt_ofInt]
  exact Jvm.Kit.bmod32 (by have := h.1; omega) (by have := h.2; omega)
theorem iI_le {a b : Int} (ha : InR a) (hb : InR b) : iI a ≤ iI b ↔ a ≤ b := by rw [Int32.le_iff_toInt_le, iI_int ha, iI_int hb]
theorem iI_lt {a b : Int} (ha : InR a) (hb : InR b) : iI a < iI b ↔ a < b := by rw [Int32.lt_iff_toInt_lt, iI_int ha, iI_int hb]
theorem iI_eq {a b : Int} (ha : InR a) (hb : InR b) : iI a = iI b ↔ a = b := by rw [← Int32.toInt_inj, iI_int ha, iI_int hb]
theorem iI_of (x : Int32) : x = iI x.toInt := (Int32.ofInt_toInt x).symm
theorem iI_InR (x : Int32) : InR x.toInt := ⟨by have := x.le_toInt; omega, by have := x.toInt_lt; omega⟩
theorem iI_0 : iI 0 = 0 := rfl
theorem iI_clamp {z : Int} (h0 : 0 ≤ z) (h : z < 2147483648) : (iI z).toNatClampNeg = z.toNat := by
  show (iI z).toInt.toNat = z.toNat
  rw [iI_int ⟨by omega, h⟩]
theorem iI_in {z : Int} {n : Nat} (h0 : 0 ≤ z) (h : z < n) (hn : n < 2147483648) : vp_in (iI z) n := by
  rw [vp_in_iff, iI_int ⟨by omega, by omega⟩]
  exact ⟨h0, h⟩
theorem iI_div {a b : Int} (ha : 0 ≤ a) (ha2 : a < 2147483648) (hb : 0 < b) (hb2 : b < 2147483648) : iI a / iI b = iI (a / b) := by
  have h1 : 0 ≤ a / b := Int.ediv_nonneg ha (Int.le_of_lt hb)
  have h2 : a / b ≤ a := Int.ediv_le_self b ha
  rw [← Int32.toInt_inj, Jvm.Kit.i32_div (by rw [iI_int ⟨by omega, ha2⟩]; omega), iI_int ⟨by omega, ha2⟩, iI_int ⟨by omega, hb2⟩, iI_int ⟨by omega, by omega⟩]
  exact Int.tdiv_eq_ediv_of_nonneg ha
theorem iI_rem {a b : Int} (ha : 0 ≤ a) (ha2 : a < 2147483648) (hb : 0 < b) (hb2 : b < 2147483648) : iI a - iI a / iI b * iI b = iI (a % b) := by
  rw [iI_div ha ha2 hb hb2, iI_mul, iI_sub, Int.emod_def, Int.mul_comm (a / b) b]
def oppZ (a : Int) : Int := if a % 2 = 0 then a + 1 else a - 1
theorem iI_xor1 {a : Int} (h0 : 0 ≤ a) (h : a ≤ 5) : iI a ^^^ iI 1 = iI (oppZ a) := by
  have h : a = 0 ∨ a = 1 ∨ a = 2 ∨ a = 3 ∨ a = 4 ∨ a = 5 := by omega
  rcases h with rfl | rfl | rfl | rfl | rfl | rfl <;> decide
/-- an int array's contents, by integers -/
def aI (g : Nat → Int) : Nat → Int32 := fun k => iI (g k)
def updZ (g : Nat → Int) (k : Nat) (x : Int) : Nat → Int := fun j => if j = k then x else g j
theorem aI_upd (g : Nat → Int) (k : Nat) (x : Int) : upd (aI g) k (iI x) = aI (updZ g k x) := by
  funext j
  simp only [upd, aI, updZ]
  by_cases h : j = k
  · rw [if_pos h, if_pos h]
  · rw [if_neg h, if_neg h]
theorem updZ_s (g : Nat → Int) (k : Nat) (x : Int) : updZ g k x k = x := if_pos rfl
theorem updZ_n {g : Nat → Int} {k j : Nat} {x : Int} (h : j ≠ k) : updZ g k x j = g j := if_neg h
theorem InR_i {a : Int} (h1 : -2147483648 ≤ a) (h2 : a < 2147483648) : InR a := ⟨h1, h2⟩
/-! rows over them -/
section ZV
variable {p : Program} {l : Launch} {e : Env} {R : Room} {s : State} {m : MethodId} {args : Array Value} {below : List Frame} {meth : Method} {c : Code} {H : Heap} {locs : List Loc} {cells slots : Nat} {Q : State → Prop}
variable {cc : ByteArray} {pc : Nat} {ls : Array Slot} {rest : List Value} {D : va_G} {A : Nat → Prop} {a : Nat} {ws : va_W}
theorem zv_iconst (hexec : p.tables.exec = Jvm.exec) (hb : c.code = cc) {n : Int} (hdg : decode cc pc = .ok (.iconst n, 1))
    (k : W p l e R s m args below meth c H locs cells slots Q (F0 m (pc + 1) ls (.int (iI n) :: rest))) : W p l e R s m args below meth c H locs cells slots Q (F0 m pc ls rest) := lv_iconst hexec hb hdg rfl k
theorem zv_bipush (hexec : p.tables.exec = Jvm.exec) (hb : c.code = cc) {n : Int} (hdg : decode cc pc = .ok (.bipush n, 2)) (hv : (Int8.ofInt n).toInt32 = iI n)
    (k : W p l e R s m args below meth c H locs cells slots Q (F0 m (pc + 2) ls (.int (iI n) :: rest))) : W p l e R s m args below meth c H locs cells slots Q (F0 m pc ls rest) := lv_bipush hexec hb hdg hv k
theorem zv_sipush (hexec : p.tables.exec = Jvm.exec) (hb : c.code = cc) {n : Int} (hdg : decode cc pc = .ok (.sipush n, 3)) (hv : (Int16.ofInt n).toInt32 = iI n)
    (k : W p l e R s m args below meth c H locs cells slots Q (F0 m (pc + 3) ls (.int (iI n) :: rest))) : W p l e R s m args below meth c H locs cells slots Q (F0 m pc ls rest) := lv_sipush hexec hb hdg hv k
theorem zv_iadd (hexec : p.tables.exec = Jvm.exec) (hb : c.code = cc) {x y : Int} (hdg : decode cc pc = .ok (.iadd, 1))
    (k : W p l e R s m args below meth c H locs cells slots Q (F0 m (pc + 1) ls (.int (iI (x + y)) :: rest))) : W p l e R s m args below meth c H locs cells slots Q (F0 m pc ls (.int (iI y) :: .int (iI x) :: rest)) := lv_iadd hexec hb hdg (by rw [iI_add]; exact k)
theorem zv_isub (hexec : p.tables.exec = Jvm.exec) (hb : c.code = cc) {x y : Int} (hdg : decode cc pc = .ok (.isub, 1))
    (k : W p l e R s m args below meth c H locs cells slots Q (F0 m (pc + 1) ls (.int (iI (x - y)) :: rest))) : W p l e R s m args below meth c H locs cells slots Q (F0 m pc ls (.int (iI y) :: .int (iI x) :: rest)) := lv_isub hexec hb hdg (by rw [iI_sub]; exact k)
theorem zv_imul (hexec : p.tables.exec = Jvm.exec) (hb : c.code = cc) {x y : Int} (hdg : decode cc pc = .ok (.imul, 1))
    (k : W p l e R s m args below meth c H locs cells slots Q (F0 m (pc + 1) ls (.int (iI (x * y)) :: rest))) : W p l e R s m args below meth c H locs cells slots Q (F0 m pc ls (.int (iI y) :: .int (iI x) :: rest)) := lv_imul hexec hb hdg (by rw [iI_mul]; exact k)
theorem zv_idiv (hexec : p.tables.exec = Jvm.exec) (hb : c.code = cc) {x y : Int} (hdg : decode cc pc = .ok (.idiv, 1)) (h1 : 0 ≤ x) (h2 : x < 2147483648) (h3 : 0 < y) (h4 : y < 2147483648)
    (k : W p l e R s m args below meth c H locs cells slots Q (F0 m (pc + 1) ls (.int (iI (x / y)) :: rest))) : W p l e R s m args below meth c H locs cells slots Q (F0 m pc ls (.int (iI y) :: .int (iI x) :: rest)) :=
  lv_idiv hexec hb hdg (fun z => absurd ((iI_eq ⟨by omega, h4⟩ ⟨by omega, by omega⟩).mp (z.trans iI_0.symm)) (by omega)) (by rw [iI_div h1 h2 h3 h4]; exact k)
theorem zv_irem (hexec : p.tables.exec = Jvm.exec) (hb : c.code = cc) {x y : Int} (hdg : decode cc pc = .ok (.irem, 1)) (h1 : 0 ≤ x) (h2 : x < 2147483648) (h3 : 0 < y) (h4 : y < 2147483648)
    (k : W p l e R s m args below meth c H locs cells slots Q (F0 m (pc + 1) ls (.int (iI (x % y)) :: rest))) : W p l e R s m args below meth c H locs cells slots Q (F0 m pc ls (.int (iI y) :: .int (iI x) :: rest)) :=
  lv_irem hexec hb hdg (fun z => absurd ((iI_eq ⟨by omega, h4⟩ ⟨by omega, by omega⟩).mp (z.trans iI_0.symm)) (by omega)) (by rw [iI_rem h1 h2 h3 h4]; exact k)
theorem zv_ixor1 (hexec : p.tables.exec = Jvm.exec) (hb : c.code = cc) {x : Int} (hdg : decode cc pc = .ok (.ixor, 1)) (h1 : 0 ≤ x) (h2 : x ≤ 5)
    (k : W p l e R s m args below meth c H locs cells slots Q (F0 m (pc + 1) ls (.int (iI (oppZ x)) :: rest))) : W p l e R s m args below meth c H locs cells slots Q (F0 m pc ls (.int (iI 1) :: .int (iI x) :: rest)) := lv_ixor hexec hb hdg (by rw [iI_xor1 h1 h2]; exact k)
theorem zv_iinc (hexec : p.tables.exec = Jvm.exec) (hb : c.code = cc) {i nL k : Nat} {n x : Int} {lv lv' : List (Nat × Value)} (hdg : decode cc pc = .ok (.iinc i n, 3)) (h : lv_has ls nL lv) (hk : lv[k]? = some (i, .int (iI x))) (hn : i < nL) (hl : (i, Value.int (iI (x + n))) :: lv.filter (fun q => !(q.1 == i) && !(q.1 + 1 == i && q.2.category == 2)) = lv')
    (kk : ∀ ls' : Array Slot, lv_has ls' nL lv' → W p l e R s m args below meth c H locs cells slots Q (F0 m (pc + 3) ls' rest)) : W p l e R s m args below meth c H locs cells slots Q (F0 m pc ls rest) := lv_iinc hexec hb hdg h hk (iI_add x n) hn hl kk
/-- another term for the top of the stack -/
theorem zv_top {x y : Int} (h : x = y) (k : W p l e R s m args below meth c H locs cells slots Q (F0 m pc ls (.int (iI y) :: rest))) : W p l e R s m args below meth c H locs cells slots Q (F0 m pc ls (.int (iI x) :: rest)) := h ▸ k
theorem zv_nam {x : Int} (k : ∀ y : Int, y = x → W p l e R s m args below meth c H locs cells slots Q (F0 m pc ls (.int (iI y) :: rest))) : W p l e R s m args below meth c H locs cells slots Q (F0 m pc ls (.int (iI x) :: rest)) := k x rfl
theorem zv_icmp_eq (hexec : p.tables.exec = Jvm.exec) (hb : c.code = cc) {x y : Int} {off : Int} {tgt : Nat} (hdg : decode cc pc = .ok (.if_icmp .eq off, 3)) (ht : (pc : Int) + off = (tgt : Int)) (h1 : InR x) (h2 : InR y)
    (kt : x = y → W p l e R s m args below meth c H locs cells slots Q (F0 m tgt ls rest)) (kf : ¬ x = y → W p l e R s m args below meth c H locs cells slots Q (F0 m (pc + 3) ls rest)) : W p l e R s m args below meth c H locs cells slots Q (F0 m pc ls (.int (iI y) :: .int (iI x) :: rest)) :=
  lv_icmp_eq hexec hb hdg ht (fun h => kt ((iI_eq h1 h2).mp h)) (fun h => kf fun z => h ((iI_eq h1 h2).mpr z))
theorem zv_icmp_ne (hexec : p.tables.exec = Jvm.exec) (hb : c.code = cc) {x y : Int} {off : Int} {tgt : Nat} (hdg : decode cc pc = .ok (.if_icmp .ne off, 3)) (ht : (pc : Int) + off = (tgt : Int)) (h1 : InR x) (h2 : InR y)
    (kt : ¬ x = y → W p l e R s m args below meth c H locs cells slots Q (F0 m tgt ls rest)) (kf : x = y → W p l e R s m args below meth c H locs cells slots Q (F0 m (pc + 3) ls rest)) : W p l e R s m args below meth c H locs cells slots Q (F0 m pc ls (.int (iI y) :: .int (iI x) :: rest)) :=
  lv_icmp_ne hexec hb hdg ht (fun h => kt fun z => h ((iI_eq h1 h2).mpr z)) (fun h => kf ((iI_eq h1 h2).mp h))
theorem zv_icmp_lt (hexec : p.tables.exec = Jvm.exec) (hb : c.code = cc) {x y : Int} {off : Int} {tgt : Nat} (hdg : decode cc pc = .ok (.if_icmp .lt off, 3)) (ht : (pc : Int) + off = (tgt : Int)) (h1 : InR x) (h2 : InR y)
    (kt : x < y → W p l e R s m args below meth c H locs cells slots Q (F0 m tgt ls rest)) (kf : ¬ x < y → W p l e R s m args below meth c H locs cells slots Q (F0 m (pc + 3) ls rest)) : W p l e R s m args below meth c H locs cells slots Q (F0 m pc ls (.int (iI y) :: .int (iI x) :: rest)) :=
  lv_icmp_lt hexec hb hdg ht (fun h => kt ((iI_lt h1 h2).mp h)) (fun h => kf fun z => h ((iI_lt h1 h2).mpr z))
theorem zv_icmp_ge (hexec : p.tables.exec = Jvm.exec) (hb : c.code = cc) {x y : Int} {off : Int} {tgt : Nat} (hdg : decode cc pc = .ok (.if_icmp .ge off, 3)) (ht : (pc : Int) + off = (tgt : Int)) (h1 : InR x) (h2 : InR y)
    (kt : y ≤ x → W p l e R s m args below meth c H locs cells slots Q (F0 m tgt ls rest)) (kf : ¬ y ≤ x → W p l e R s m args below meth c H locs cells slots Q (F0 m (pc + 3) ls rest)) : W p l e R s m args below meth c H locs cells slots Q (F0 m pc ls (.int (iI y) :: .int (iI x) :: rest)) :=
  lv_icmp_ge hexec hb hdg ht (fun h => kt ((iI_le h2 h1).mp h)) (fun h => kf fun z => h ((iI_le h2 h1).mpr z))
theorem zv_icmp_gt (hexec : p.tables.exec = Jvm.exec) (hb : c.code = cc) {x y : Int} {off : Int} {tgt : Nat} (hdg : decode cc pc = .ok (.if_icmp .gt off, 3)) (ht : (pc : Int) + off = (tgt : Int)) (h1 : InR x) (h2 : InR y)
    (kt : y < x → W p l e R s m args below meth c H locs cells slots Q (F0 m tgt ls rest)) (kf : ¬ y < x → W p l e R s m args below meth c H locs cells slots Q (F0 m (pc + 3) ls rest)) : W p l e R s m args below meth c H locs cells slots Q (F0 m pc ls (.int (iI y) :: .int (iI x) :: rest)) :=
  lv_icmp_gt hexec hb hdg ht (fun h => kt ((iI_lt h2 h1).mp h)) (fun h => kf fun z => h ((iI_lt h2 h1).mpr z))
theorem zv_icmp_le (hexec : p.tables.exec = Jvm.exec) (hb : c.code = cc) {x y : Int} {off : Int} {tgt : Nat} (hdg : decode cc pc = .ok (.if_icmp .le off, 3)) (ht : (pc : Int) + off = (tgt : Int)) (h1 : InR x) (h2 : InR y)
    (kt : x ≤ y → W p l e R s m args below meth c H locs cells slots Q (F0 m tgt ls rest)) (kf : ¬ x ≤ y → W p l e R s m args below meth c H locs cells slots Q (F0 m (pc + 3) ls rest)) : W p l e R s m args below meth c H locs cells slots Q (F0 m pc ls (.int (iI y) :: .int (iI x) :: rest)) :=
  lv_icmp_le hexec hb hdg ht (fun h => kt ((iI_le h1 h2).mp h)) (fun h => kf fun z => h ((iI_le h1 h2).mpr z))
theorem zv_if_eq (hexec : p.tables.exec = Jvm.exec) (hb : c.code = cc) {x : Int} {off : Int} {tgt : Nat} (hdg : decode cc pc = .ok (.ifCond .eq off, 3)) (ht : (pc : Int) + off = (tgt : Int)) (h1 : InR x)
    (kt : x = 0 → W p l e R s m args below meth c H locs cells slots Q (F0 m tgt ls rest)) (kf : ¬ x = 0 → W p l e R s m args below meth c H locs cells slots Q (F0 m (pc + 3) ls rest)) : W p l e R s m args below meth c H locs cells slots Q (F0 m pc ls (.int (iI x) :: rest)) :=
  lv_if_eq hexec hb hdg ht (fun h => kt ((iI_eq h1 ⟨by omega, by omega⟩).mp (h.trans iI_0.symm))) (fun h => kf fun z => h (((iI_eq h1 ⟨by omega, by omega⟩).mpr z).trans iI_0))
theorem zv_if_ne (hexec : p.tables.exec = Jvm.exec) (hb : c.code = cc) {x : Int} {off : Int} {tgt : Nat} (hdg : decode cc pc = .ok (.ifCond .ne off, 3)) (ht : (pc : Int) + off = (tgt : Int)) (h1 : InR x)
    (kt : ¬ x = 0 → W p l e R s m args below meth c H locs cells slots Q (F0 m tgt ls rest)) (kf : x = 0 → W p l e R s m args below meth c H locs cells slots Q (F0 m (pc + 3) ls rest)) : W p l e R s m args below meth c H locs cells slots Q (F0 m pc ls (.int (iI x) :: rest)) :=
  lv_if_ne hexec hb hdg ht (fun h => kt fun z => h (((iI_eq h1 ⟨by omega, by omega⟩).mpr z).trans iI_0)) (fun h => kf ((iI_eq h1 ⟨by omega, by omega⟩).mp (h.trans iI_0.symm)))
theorem zv_if_lt (hexec : p.tables.exec = Jvm.exec) (hb : c.code = cc) {x : Int} {off : Int} {tgt : Nat} (hdg : decode cc pc = .ok (.ifCond .lt off, 3)) (ht : (pc : Int) + off = (tgt : Int)) (h1 : InR x)
    (kt : x < 0 → W p l e R s m args below meth c H locs cells slots Q (F0 m tgt ls rest)) (kf : ¬ x < 0 → W p l e R s m args below meth c H locs cells slots Q (F0 m (pc + 3) ls rest)) : W p l e R s m args below meth c H locs cells slots Q (F0 m pc ls (.int (iI x) :: rest)) :=
  lv_if_lt hexec hb hdg ht (fun h => kt ((iI_lt h1 ⟨by omega, by omega⟩).mp (by rw [iI_0]; exact h))) (fun h => kf fun z => h (by rw [← iI_0]; exact (iI_lt h1 ⟨by omega, by omega⟩).mpr z))
theorem zv_if_ge (hexec : p.tables.exec = Jvm.exec) (hb : c.code = cc) {x : Int} {off : Int} {tgt : Nat} (hdg : decode cc pc = .ok (.ifCond .ge off, 3)) (ht : (pc : Int) + off = (tgt : Int)) (h1 : InR x)
    (kt : 0 ≤ x → W p l e R s m args below meth c H locs cells slots Q (F0 m tgt ls rest)) (kf : ¬ 0 ≤ x → W p l e R s m args below meth c H locs cells slots Q (F0 m (pc + 3) ls rest)) : W p l e R s m args below meth c H locs cells slots Q (F0 m pc ls (.int (iI x) :: rest)) :=
  lv_if_ge hexec hb hdg ht (fun h => kt ((iI_le ⟨by omega, by omega⟩ h1).mp (by rw [iI_0]; exact h))) (fun h => kf fun z => h (by rw [← iI_0]; exact (iI_le ⟨by omega, by omega⟩ h1).mpr z))
theorem zv_if_gt (hexec : p.tables.exec = Jvm.exec) (hb : c.code = cc) {x : Int} {off : Int} {tgt : Nat} (hdg : decode cc pc = .ok (.ifCond .gt off, 3)) (ht : (pc : Int) + off = (tgt : Int)) (h1 : InR x)
    (kt : 0 < x → W p l e R s m args below meth c H locs cells slots Q (F0 m tgt ls rest)) (kf : ¬ 0 < x → W p l e R s m args below meth c H locs cells slots Q (F0 m (pc + 3) ls rest)) : W p l e R s m args below meth c H locs cells slots Q (F0 m pc ls (.int (iI x) :: rest)) :=
  lv_if_gt hexec hb hdg ht (fun h => kt ((iI_lt ⟨by omega, by omega⟩ h1).mp (by rw [iI_0]; exact h))) (fun h => kf fun z => h (by rw [← iI_0]; exact (iI_lt ⟨by omega, by omega⟩ h1).mpr z))
theorem zv_if_le (hexec : p.tables.exec = Jvm.exec) (hb : c.code = cc) {x : Int} {off : Int} {tgt : Nat} (hdg : decode cc pc = .ok (.ifCond .le off, 3)) (ht : (pc : Int) + off = (tgt : Int)) (h1 : InR x)
    (kt : x ≤ 0 → W p l e R s m args below meth c H locs cells slots Q (F0 m tgt ls rest)) (kf : ¬ x ≤ 0 → W p l e R s m args below meth c H locs cells slots Q (F0 m (pc + 3) ls rest)) : W p l e R s m args below meth c H locs cells slots Q (F0 m pc ls (.int (iI x) :: rest)) :=
  lv_if_le hexec hb hdg ht (fun h => kt ((iI_le h1 ⟨by omega, by omega⟩).mp (by rw [iI_0]; exact h))) (fun h => kf fun z => h (by rw [← iI_0]; exact (iI_le h1 ⟨by omega, by omega⟩).mpr z))
theorem zv_iald (hexec : p.tables.exec = Jvm.exec) (hb : c.code = cc) {tys : List (ClassId × FieldType)} (hK : va_K D vwCl tys s) (hP : va_P D vwCl ws H) (q0 t0 : Nat) {cA : ClassId} {n : Nat} {g : Nat → Int} (ha : ws[q0]? = some (a, .inl (cA, n, .inl (aI g)))) (ht : tys[t0]? = some (cA, .int)) {i : Int} (h0 : 0 ≤ i) (h1 : i < n) (hn : n < 2147483648) (hdg : decode cc pc = .ok (.iaload, 1))
    (kk : W p l e R s m args below meth c H locs cells slots Q (F0 m (pc + 1) ls (.int (iI (g i.toNat)) :: rest))) : W p l e R s m args below meth c H locs cells slots Q (F0 m pc ls (.int (iI i) :: .ref a :: rest)) :=
  va_iald hexec hb hK hP q0 t0 ha ht (iI_in h0 h1 hn) hdg (by rw [iI_clamp h0 (by omega)]; exact kk)
theorem zv_iast (hexec : p.tables.exec = Jvm.exec) (hb : c.code = cc) {tys : List (ClassId × FieldType)} {H0 : Heap} (hK : va_K D vwCl tys s) (hP : va_P D vwCl ws H) (hD : va_D A ws) (hS : va_S A H0 H locs) (q0 t0 : Nat) {cA : ClassId} {n : Nat} {g : Nat → Int} (ha : ws[q0]? = some (a, .inl (cA, n, .inl (aI g)))) (ht : tys[t0]? = some (cA, .int)) {i x : Int} (h0 : 0 ≤ i) (h1 : i < n) (hn : n < 2147483648) {ws' : va_W} (hw : ws.set q0 (a, .inl (cA, n, .inl (aI (updZ g i.toNat x)))) = ws') (hdg : decode cc pc = .ok (.iastore, 1))
    (kk : ∀ (H1 : Heap) (locs1 : List Loc), va_P D vwCl ws' H1 → va_D A ws' → va_S A H0 H1 locs1 → W p l e R s m args below meth c H1 locs1 cells slots Q (F0 m (pc + 1) ls rest)) : W p l e R s m args below meth c H locs cells slots Q (F0 m pc ls (.int (iI x) :: .int (iI i) :: .ref a :: rest)) := by
  refine va_iast hexec hb hK hP hD hS q0 t0 ha ht (iI_in h0 h1 hn) hdg (fun H1 locs1 k1 k2 k3 => ?_)
  rw [iI_clamp h0 (by omega), aI_upd, hw] at k1 k2
  exact kk H1 locs1 k1 k2 k3
theorem zv_alen (hexec : p.tables.exec = Jvm.exec) (hb : c.code = cc) {tys : List (ClassId × FieldType)} (hK : va_K D vwCl tys s) (hP : va_P D vwCl ws H) (q0 t0 : Nat) {cA : ClassId} {n : Nat} {g : Nat → Int} (ha : ws[q0]? = some (a, .inl (cA, n, .inl (aI g)))) (ht : tys[t0]? = some (cA, .int)) (hdg : decode cc pc = .ok (.arraylength, 1))
    (kk : W p l e R s m args below meth c H locs cells slots Q (F0 m (pc + 1) ls (.int (iI (n : Int)) :: rest))) : W p l e R s m args below meth c H locs cells slots Q (F0 m pc ls (.ref a :: rest)) :=
  va_alen hexec hb hK hP q0 t0 ha ht (v := iI (n : Int)) (by show Int32.ofNat n = Int32.ofInt n; exact (Int32.ofInt_eq_ofNat).symm) hdg kk
end ZV
end
section
/-! what every method's start says of the tables: the classes, the arrays' classes, the nest's links -/
def nestT : List (String × Nat × MethodName) := [(RX2, 11, yX1_init), (RX0, 39, yX2_squareOf), (RX0, 42, yX2_columnOf), (RX0, 45, yX2_rowOf), (RX0, 48, yX2_wordOf), (RX0, 65, yX2_squareAt), (RX0, 73, yX2_placeOf), (RX0, 76, yX2_withLetter), (RX0, 79, yX2_oppositeOf)]
def NN (U : State) : Prop := ∀ t ∈ nestT, va_Nw (.methodLinkNest t.1 t.2.1 t.2.2 "Tetherline") U
abbrev aT (cI cJ : ClassId) : List (ClassId × FieldType) := [(cI, .int)]
def KK (D : va_G) (cI cJ : ClassId) (U : State) : Prop := va_K D vwCl (aT cI cJ) U ∧ NN U
theorem NN.warm {s U : State} (hW : s.WarmedH U.vm) (h : NN s) : NN U := fun t ht => va_Nw.warmM hW (h t ht)
theorem NN.same {s U : State} (hv : s.vm = U.vm) (h : NN s) : NN U := fun t ht => va_Nw.same rfl hv (h t ht)
theorem KK.warm {D : va_G} {cI cJ : ClassId} {s U : State} (hW : s.WarmedH U.vm) (h : KK D cI cJ s) : KK D cI cJ U := ⟨va_K.moved hW.alike h.1, h.2.warm hW⟩
theorem KK.calling {D : va_G} {cI cJ : ClassId} {U : State} {g : JFrame} {mk : MethodId} {a : Array Value} (h : KK D cI cJ U) : KK D cI cJ (U.calling g mk a) := ⟨va_K.moved (u := U) (U := U.calling g mk a) (Vm.Alike.refl U.vm) h.1, h.2.same rfl⟩
def lvl (k : Nat) : Room := { frames := k, cells := 0, slots := 0, locals := 64 * k }
/-- a method that only reads the cells ws, and answers an int -/
def PPre (D : va_G) (cI cJ : ClassId) (ws : va_W) : State → Prop := fun U => KK D cI cJ U ∧ va_P D vwCl ws U.heap
def PQ (post : Int → Prop) : Array Value → State → Outcome → State → Prop := fun _ st o t => (∃ r : Int, o = .returned (some (.int (iI r))) ∧ post r) ∧ t.heap = st.heap
def PM (l : Launch) (y : MethodName) (cd : Cond) (k : Nat) (As : List Value) (D : va_G) (cI cJ : ClassId) (ws : va_W) (post : Int → Prop) : Prop :=
  Met l y (cd :: GW) (lvl k) (va_Pc As (PPre D cI cJ ws)) (PQ post) 0 0 (fun _ => False)
theorem PM_blind {As : List Value} {D : va_G} {cI cJ : ClassId} {ws : va_W} : FrameBlind (va_Pc As (PPre D cI cJ ws)) := fun a U g mk q => ⟨q.1, q.2.1.calling, q.2.2⟩
theorem PM_of {l : Launch} {y : MethodName} {k : Nat} {As : List Value} {D : va_G} {cI cJ : ClassId} {ws : va_W} {post : Int → Prop} {cc : ByteArray} {maxL : Nat} {ret : Option FieldType} {own : String}
    (hy : plainName y.cls = true) (ho : y.cls = own) (hn : (lg_sl As).length ≤ maxL)
    (body : ∀ (p : Program) (e : Env) (s : State) (m : MethodId) (below : List Frame) (meth : Method) (c : Code) (ls : Array Slot), p.tables.exec = Jvm.exec → c.code = cc → meth.sig.returnType = ret → (∀ w ∈ GW, w.before As.toArray s = true) → s.vm.findClass own = some m.cls → meth.locks = false → c.maxLocals = maxL → KK D cI cJ s → va_P D vwCl ws s.heap → lv_has ls maxL (lv_args 0 As) →
      W p l e (lvl k) s m As.toArray below meth c s.heap [] 0 0 (MQ below (PQ post) As.toArray s 0 0 (fun _ => False)) (F0 m 0 ls [])) : PM l y (.code y cc maxL ret) k As D cI cJ ws post := by
  refine Met.ofW (cc := cc) (maxL := maxL) (ret := ret) hy rfl ?_
  intro p e s m args below meth c s₁ B hml hv
  obtain ⟨rfl, hK, hP⟩ := hv
  have hts := atoms_spec (ws := Cond.code y cc maxL ret :: GW) B.pre
  have hl := lv_entry As (n := maxL) hn
  rw [lg_entry_eq]
  exact body p e s m below meth c _ B.exec B.bytes B.returns (fun w h => hts w (List.mem_cons_of_mem _ h)) (by rw [← ho]; exact findClass_of_methodNamed B.named) B.notSynchronized hml hK hP hl
section PC
variable {p : Program} {l : Launch} {e : Env} {R : Room} {s : State} {m : MethodId} {args : Array Value} {below : List Frame} {meth : Method} {c : Code} {H : Heap} {locs : List Loc} {cells slots : Nat} {Q : State → Prop}
variable {cc : ByteArray} {pc : Nat} {ls : Array Slot} {rest st : List Value} {D : va_G} {cI cJ : ClassId}
theorem PM_iret {post : Int → Prop} {x : Int} (hexec : p.tables.exec = Jvm.exec) (hb : c.code = cc) (hr : meth.sig.returnType = some .int) (hlocks : meth.locks = false) (hdg : decode cc pc = .ok (.ireturn, 1)) (hq : post x) :
    W p l e R s m args below meth c s.heap [] 0 0 (MQ below (PQ post) args s 0 0 (fun _ => False)) (F0 m pc ls [.int (iI x)]) :=
  W.iret hexec hb hr (fun t ht hW => ⟨⟨x, rfl, hq⟩, ht⟩) (fun _ h => nomatch h) hdg hlocks
theorem PM_zret {post : Int → Prop} {x : Int} (hexec : p.tables.exec = Jvm.exec) (hb : c.code = cc) (hr : meth.sig.returnType = some .boolean) (hlocks : meth.locks = false) (hdg : decode cc pc = .ok (.ireturn, 1)) (hn : narrow .boolean (.int (iI x)) = .int (iI x)) (hq : post x) :
    W p l e R s m args below meth c s.heap [] 0 0 (MQ below (PQ post) args s 0 0 (fun _ => False)) (F0 m pc ls [.int (iI x)]) :=
  W.zret hexec hb hr hn (fun t ht hW => ⟨⟨x, rfl, hq⟩, ht⟩) (fun _ h => nomatch h) hdg hlocks
theorem PM_goes {y : MethodName} {cd : Cond} {k : Nat} {As : List Value} {ws : va_W} {post : Int → Prop} {a : Array Value} (hr : va_Run p l e R s m args below meth c H locs cells slots 0 0 (F0 m pc ls st) rest (PQ post a) (fun _ => False))
    (kk : ∀ r : Int, post r → W p l e R s m args below meth c H locs cells slots Q (F0 m (pc + 3) ls (.int (iI r) :: rest))) : W p l e R s m args below meth c H locs cells slots Q (F0 m pc ls st) := by
  intro T hT X
  obtain ⟨v, st₀, t, T', L, h0, X', hL, e1, e2, ⟨⟨r, hv, hp⟩, hh⟩, hg⟩ := hr T hT X
  cases hv
  obtain ⟨t2, a1, b1⟩ := kk r hp T' (by rw [e1, hh, h0]) (Stand.forget X' (fun q h => (hL q h).elim))
  exact ⟨t2, hg t2 a1, b1⟩
/-- a call of a reading method on an object of the world -/
theorem zc_V {y : MethodName} {bytes : ByteArray} {maxL index k n : Nat} {ret : Option FieldType} {own C : String} {b : Addr} {As : List Value} {ws ws' : va_W} {post : Int → Prop} (hexec : p.tables.exec = Jvm.exec) (hb : c.code = cc) (hml : c.maxLocals = ls.size) (hts : ∀ w ∈ GW, w.before args s = true) (hown : s.vm.findClass own = some m.cls) (hK : KK D cI cJ s) (hP : va_P D vwCl ws H)
    (hM : PM l y (.code y bytes maxL ret) k (.ref b :: As) D cI cJ ws' post) (hG : GoodIn GW (wsV own index C y (.code y bytes maxL ret :: GW))) (hd : y.cls = C ∧ y.cls ≠ "java/lang/invoke/MethodHandle" ∧ y.cls ≠ "java/lang/invoke/VarHandle" ∧ (parseMethodDescriptor y.desc).map (fun d => d.parameters.length) = some n) (hn : As.length = n)
    (hR : k + 1 ≤ R.frames ∧ 8 + (maxL + 11) + 64 * k ≤ R.locals) (hf : cells ≤ R.cells ∧ slots ≤ R.slots) (pl : List Nat) (hs : pl.filterMap (fun i => ws[i]?) = ws') (q0 : Nat) {ci : Nat} {fs : List Value} {q : vw_C} (hc : vwCl[ci]? = some q) (hq : q.1 = C) (he : ws[q0]? = some (b, .inr (ci, fs))) (hst : st = As.reverse ++ .ref b :: rest) (hW : (rest.map fun v => v.category).sum ≤ 8) (hdg : decode cc pc = .ok (.invokevirtual index, 3))
    (kk : ∀ r : Int, post r → W p l e R s m args below meth c H locs cells slots Q (F0 m (pc + 3) ls (.int (iI r) :: rest))) : W p l e R s m args below meth c H locs cells slots Q (F0 m pc ls st) := by
  have hr := va_recv hK.1 hP hc he
  rw [hq] at hr
  refine PM_goes (y := y) (cd := .code y bytes maxL ret) (k := k) (As := .ref b :: As) (ws := ws') (va_runV (C := C) (As := As) (rest := rest) (nL := ls.size) ⟨hexec, hb, hml, hown, hts⟩ hM (cwV n hts hG rfl rfl rfl hd hR) ⟨PM_blind, hr, fun U hU hW => ⟨rfl, hK.warm hW, by rw [hU]; exact hP.sub pl hs⟩⟩ rfl hn rfl hst (lv_room hW) hdg hf) kk
/-- a call of a static one of the same class, which reads nothing -/
theorem zc_S {y : MethodName} {bytes : ByteArray} {maxL index k n : Nat} {ret : Option FieldType} {own : String} {As : List Value} {ws ws' : va_W} {post : Int → Prop} (hexec : p.tables.exec = Jvm.exec) (hb : c.code = cc) (hml : c.maxLocals = ls.size) (hts : ∀ w ∈ GW, w.before args s = true) (hown : s.vm.findClass own = some m.cls) (hK : KK D cI cJ s) (hP : va_P D vwCl ws H)
    (hM : PM l y (.code y bytes maxL ret) k As D cI cJ ws' post) (hG : GoodIn GW (wsS own index y (.code y bytes maxL ret :: GW))) (hd : y.cls = own ∧ y.cls ≠ "java/lang/invoke/MethodHandle" ∧ y.cls ≠ "java/lang/invoke/VarHandle" ∧ (parseMethodDescriptor y.desc).map (fun d => d.parameters.length) = some n) (hn : As.length = n)
    (hR : k + 1 ≤ R.frames ∧ 8 + (maxL + 11) + 64 * k ≤ R.locals) (hf : cells ≤ R.cells ∧ slots ≤ R.slots) (pl : List Nat) (hs : pl.filterMap (fun i => ws[i]?) = ws') (hst : st = As.reverse ++ rest) (hW : (rest.map fun v => v.category).sum ≤ 8) (hdg : decode cc pc = .ok (.invokestatic index, 3))
    (kk : ∀ r : Int, post r → W p l e R s m args below meth c H locs cells slots Q (F0 m (pc + 3) ls (.int (iI r) :: rest))) : W p l e R s m args below meth c H locs cells slots Q (F0 m pc ls st) :=
  PM_goes (y := y) (cd := .code y bytes maxL ret) (k := k) (As := As) (ws := ws') (va_runS (As := As) (rest := rest) (nL := ls.size) ⟨hexec, hb, hml, hown, hts⟩ hM (cwS n hts hG rfl rfl rfl hd hR) ⟨PM_blind, fun U hU hW => ⟨rfl, hK.warm hW, by rw [hU]; exact hP.sub pl hs⟩⟩ rfl hn rfl hst (lv_room hW) hdg hf) kk
/-- .. a private static one of a nest mate -/
theorem zc_SN {y : MethodName} {bytes : ByteArray} {maxL index k n : Nat} {ret : Option FieldType} {own : String} {As : List Value} {ws ws' : va_W} {post : Int → Prop} (hexec : p.tables.exec = Jvm.exec) (hb : c.code = cc) (hml : c.maxLocals = ls.size) (hts : ∀ w ∈ GW, w.before args s = true) (hown : s.vm.findClass own = some m.cls) (hK : KK D cI cJ s) (hP : va_P D vwCl ws H)
    (hM : PM l y (.code y bytes maxL ret) k As D cI cJ ws' post) (hcd : Cond.code y bytes maxL ret ∈ GW) (hsta : Cond.static y ∈ GW) (hini : Cond.initialized y.cls ∈ GW) (hnt : (own, index, y) ∈ nestT) (hd : y.cls ≠ "java/lang/invoke/MethodHandle" ∧ y.cls ≠ "java/lang/invoke/VarHandle" ∧ (parseMethodDescriptor y.desc).map (fun d => d.parameters.length) = some n) (hn : As.length = n)
    (hR : k + 1 ≤ R.frames ∧ 8 + (maxL + 11) + 64 * k ≤ R.locals) (hf : cells ≤ R.cells ∧ slots ≤ R.slots) (pl : List Nat) (hs : pl.filterMap (fun i => ws[i]?) = ws') (hst : st = As.reverse ++ rest) (hW : (rest.map fun v => v.category).sum ≤ 8) (hdg : decode cc pc = .ok (.invokestatic index, 3))
    (kk : ∀ r : Int, post r → W p l e R s m args below meth c H locs cells slots Q (F0 m (pc + 3) ls (.int (iI r) :: rest))) : W p l e R s m args below meth c H locs cells slots Q (F0 m pc ls st) :=
  PM_goes (y := y) (cd := .code y bytes maxL ret) (k := k) (As := As) (ws := ws') (va_runSN (host := "Tetherline") (As := As) (rest := rest) (nL := ls.size) ⟨hexec, hb, hml, hown, hts⟩ hM ⟨va_cnB n hts (gw_good (gw_cons hcd fun _ h => h)) rfl rfl rfl (hK.2 _ hnt) (hts _ hini) hd hR, hts _ hsta, trivial⟩ ⟨PM_blind, fun U hU hW => ⟨rfl, hK.warm hW, by rw [hU]; exact hP.sub pl hs⟩⟩ rfl hn rfl hst (lv_room hW) hdg hf) kk
end PC
theorem gd_V {own C : String} {idx : Nat} {y : MethodName} {cd : Cond} (h1 : Cond.methodLink own idx y ∈ GW) (h2 : Cond.instanceMethod y ∈ GW) (h3 : Cond.selects C y y ∈ GW) (h4 : Cond.initialized C ∈ GW) (h5 : cd ∈ GW) : GoodIn GW (wsV own idx C y (cd :: GW)) :=
  gw_good (gw_cons h1 (gw_cons h2 (gw_cons h3 (gw_cons h4 (gw_cons h5 fun _ h => h)))))
theorem gd_S {own : String} {idx : Nat} {y : MethodName} {cd : Cond} (h1 : Cond.methodLink own idx y ∈ GW) (h2 : Cond.static y ∈ GW) (h4 : Cond.initialized own ∈ GW) (h5 : cd ∈ GW) : GoodIn GW (wsS own idx y (cd :: GW)) :=
  gw_good (gw_cons h1 (gw_cons h2 (gw_cons h4 (gw_cons h5 fun _ h => h))))
end
section
section ZJ
variable {p : Program} {l : Launch} {e : Env} {R : Room} {s : State} {m : MethodId} {args : Array Value} {below : List Frame} {meth : Method} {c : Code} {H : Heap} {locs : List Loc} {cells slots : Nat} {Q : State → Prop}
variable {pc : Nat} {ls : Array Slot} {rest : List Value}
theorem zj_max {cc : ByteArray} (hexec : p.tables.exec = Jvm.exec) (hb : c.code = cc) (hml : c.maxLocals = ls.size) {own : String} {index : Nat} (hown : s.vm.findClass own = some m.cls) (hlink : (Cond.methodLink own index Lib.Math.max.name).before args s = true) (hstat : (Cond.static Lib.Math.max.name).before args s = true) (hini : (Cond.initialized "java/lang/Math").before args s = true) (hcode : (Cond.code Lib.Math.max.name Lib.Math.max.code 2 (some .int)).before args s = true)
    (hframes : 1 ≤ R.frames) (hlocals : (rest.map fun v => v.category).sum + 13 ≤ R.locals) (hc : cells ≤ R.cells) (hs : slots ≤ R.slots) {x y : Int} (h1 : InR x) (h2 : InR y) (hdg : decode cc pc = .ok (.invokestatic index, 3))
    (kk : W p l e R s m args below meth c H locs cells slots Q (F0 m (pc + 3) ls (.int (iI (if x < y then y else x)) :: rest))) : W p l e R s m args below meth c H locs cells slots Q (F0 m pc ls (.int (iI y) :: .int (iI x) :: rest)) := by
  refine va_mmax hexec hb hml hown hlink hstat hini hcode hframes hlocals hc hs hdg ?_
  have e : (if iI x < iI y then iI y else iI x) = iI (if x < y then y else x) := by
    by_cases h : x < y
    · rw [if_pos h, if_pos ((iI_lt h1 h2).mpr h)]
    · rw [if_neg h, if_neg (fun z => h ((iI_lt h1 h2).mp z))]
  rw [e]
  exact kk
theorem zj_min {cc : ByteArray} (hexec : p.tables.exec = Jvm.exec) (hb : c.code = cc) (hml : c.maxLocals = ls.size) {own : String} {index : Nat} (hown : s.vm.findClass own = some m.cls) (hlink : (Cond.methodLink own index Lib.Math.min.name).before args s = true) (hstat : (Cond.static Lib.Math.min.name).before args s = true) (hini : (Cond.initialized "java/lang/Math").before args s = true) (hcode : (Cond.code Lib.Math.min.name Lib.Math.min.code 2 (some .int)).before args s = true)
    (hframes : 1 ≤ R.frames) (hlocals : (rest.map fun v => v.category).sum + 13 ≤ R.locals) (hc : cells ≤ R.cells) (hs : slots ≤ R.slots) {x y : Int} (h1 : InR x) (h2 : InR y) (hdg : decode cc pc = .ok (.invokestatic index, 3))
    (kk : W p l e R s m args below meth c H locs cells slots Q (F0 m (pc + 3) ls (.int (iI (if y < x then y else x)) :: rest))) : W p l e R s m args below meth c H locs cells slots Q (F0 m pc ls (.int (iI y) :: .int (iI x) :: rest)) := by
  refine va_mmin hexec hb hml hown hlink hstat hini hcode hframes hlocals hc hs hdg ?_
  have e : (if iI y < iI x then iI y else iI x) = iI (if y < x then y else x) := by
    by_cases h : y < x
    · rw [if_pos h, if_pos ((iI_lt h2 h1).mpr h)]
    · rw [if_neg h, if_neg (fun z => h ((iI_lt h2 h1).mp z))]
  rw [e]
  exact kk
theorem zj_abs {cc : ByteArray} (hexec : p.tables.exec = Jvm.exec) (hb : c.code = cc) (hml : c.maxLocals = ls.size) {own : String} {index : Nat} (hown : s.vm.findClass own = some m.cls) (hlink : (Cond.methodLink own index Lib.Math.abs.name).before args s = true) (hstat : (Cond.static Lib.Math.abs.name).before args s = true) (hini : (Cond.initialized "java/lang/Math").before args s = true) (hcode : (Cond.code Lib.Math.abs.name Lib.Math.abs.code 1 (some .int)).before args s = true)
    (hframes : 1 ≤ R.frames) (hlocals : (rest.map fun v => v.category).sum + 13 ≤ R.locals) (hc : cells ≤ R.cells) (hs : slots ≤ R.slots) {x : Int} (h1 : InR x) (hdg : decode cc pc = .ok (.invokestatic index, 3))
    (kk : W p l e R s m args below meth c H locs cells slots Q (F0 m (pc + 3) ls (.int (iI (if 0 ≤ x then x else 0 - x)) :: rest))) : W p l e R s m args below meth c H locs cells slots Q (F0 m pc ls (.int (iI x) :: rest)) := by
  refine va_mabs hexec hb hml hown hlink hstat hini hcode hframes hlocals hc hs hdg ?_
  have e : (if 0 ≤ iI x then iI x else 0 - iI x) = iI (if 0 ≤ x then x else 0 - x) := by
    by_cases h : 0 ≤ x
    · rw [if_pos h, if_pos (by rw [← iI_0]; exact (iI_le ⟨by omega, by omega⟩ h1).mpr h)]
    · rw [if_neg h, if_neg (fun z => h ((iI_le ⟨by omega, by omega⟩ h1).mp (by rw [iI_0]; exact z))), ← iI_0, iI_sub]
  rw [e]
  exact kk
end ZJ
/-! words as integers: a letter is put behind a word -/
def wjZ (w k : Int) : Int := if w % 7 - 1 = oppZ k then w / 7 else w * 7 + k + 1
theorem wjZ_b {w k B : Int} (h0 : 0 ≤ w) (h : w < B) (hk : 0 ≤ k) (hk5 : k ≤ 5) : 0 ≤ wjZ w k ∧ wjZ w k < 7 * B := by
  unfold wjZ
  split <;> omega
theorem oppZ_b {k : Int} (hk : 0 ≤ k) (hk5 : k ≤ 5) : 0 ≤ oppZ k ∧ oppZ k ≤ 5 := by
  unfold oppZ
  split <;> omega
theorem oppZ_opp {k : Int} (hk : 0 ≤ k) (hk5 : k ≤ 5) : oppZ (oppZ k) = k := by
  unfold oppZ
  split <;> split <;> omega
/-- the floor: columns, rows, the pillars' numbers by their squares (7 * column + row), -1 for none -/
def FlOK (C R np : Int) (N : Int → Int) (gn : Nat → Int) : Prop := 3 ≤ C ∧ C ≤ 7 ∧ 3 ≤ R ∧ R ≤ 7 ∧ 0 ≤ np ∧ np ≤ 3 ∧ (∀ k : Nat, k < 49 → gn k = N (k : Int)) ∧ ∀ z : Int, N z = -1 ∨ (0 ≤ N z ∧ N z < np ∧ 0 ≤ z ∧ z < 49)
theorem FlOK.N2 {C R np : Int} {N : Int → Int} {gn : Nat → Int} (h : FlOK C R np N gn) (z : Int) : -1 ≤ N z ∧ N z ≤ 2 := by
  obtain ⟨-, -, -, -, -, h6, -, h8⟩ := h
  rcases h8 z with h | h <;> omega
theorem FlOK.Nout {C R np : Int} {N : Int → Int} {gn : Nat → Int} (h : FlOK C R np N gn) (z : Int) (hz : z < 0 ∨ 49 ≤ z) : N z = -1 := by
  obtain ⟨-, -, -, -, -, -, -, h8⟩ := h
  rcases h8 z with h | h <;> omega
theorem FlOK.gn {C R np : Int} {N : Int → Int} {gn : Nat → Int} (h : FlOK C R np N gn) {z : Int} (h0 : 0 ≤ z) (h1 : z < 49) : gn z.toNat = N z := by
  obtain ⟨-, -, -, -, -, -, h7, -⟩ := h
  rw [h7 z.toNat (by omega), Int.toNat_of_nonneg h0]
def plZ (C R : Int) (N : Int → Int) (a b w : Int) : Int := if w < 343 ∧ 0 ≤ a ∧ a < C ∧ 0 ≤ b ∧ b < R ∧ N (a * 7 + b) = -1 then (a * 7 + b) * 343 + w else -1
def stR (N : Int → Int) (c r w : Int) : Int := if N (c * 7 + r) = -1 then w else wjZ w (2 * N (c * 7 + r))
def stL (N : Int → Int) (c r w : Int) : Int := if N (c * 7 + r) = -1 then w else wjZ w (oppZ (2 * N (c * 7 + r)))
def wRn (N : Int → Int) (c : Int) : Nat → Int → Int → Int
  | 0, _, w => w
  | n + 1, b, w => stR N c (b + n) (wRn N c n b w)
def wLn (N : Int → Int) (c : Int) : Nat → Int → Int → Int
  | 0, _, w => w
  | n + 1, b, w => wLn N c n b (stL N c (b + n) w)
def wRZ (N : Int → Int) (R c r w : Int) : Int := wRn N c (R - 1 - r).toNat (r + 1) w
def wLZ (N : Int → Int) (R c r w : Int) : Int := wLn N c (R - 1 - r).toNat (r + 1) w
def pw7 : Nat → Int
  | 0 => 343
  | n + 1 => 7 * pw7 n
theorem pw7_le : ∀ n : Nat, n ≤ 7 → pw7 n ≤ 282475249 := by
  intro n hn
  have h : n = 0 ∨ n = 1 ∨ n = 2 ∨ n = 3 ∨ n = 4 ∨ n = 5 ∨ n = 6 ∨ n = 7 := by omega
  rcases h with rfl | rfl | rfl | rfl | rfl | rfl | rfl | rfl <;> decide
theorem stR_b {C R np : Int} {N : Int → Int} {gn : Nat → Int} (hF : FlOK C R np N gn) {c r w B : Int} (h0 : 0 ≤ w) (h : w < B) : 0 ≤ stR N c r w ∧ stR N c r w < 7 * B := by
  unfold stR
  have h2 := hF.N2 (c * 7 + r)
  split
  · omega
  · exact wjZ_b h0 h (by omega) (by omega)
theorem stL_b {C R np : Int} {N : Int → Int} {gn : Nat → Int} (hF : FlOK C R np N gn) {c r w B : Int} (h0 : 0 ≤ w) (h : w < B) : 0 ≤ stL N c r w ∧ stL N c r w < 7 * B := by
  unfold stL
  have h2 := hF.N2 (c * 7 + r)
  split
  · omega
  · have := oppZ_b (k := 2 * N (c * 7 + r)) (by omega) (by omega)
    exact wjZ_b h0 h this.1 this.2
theorem wRn_b {C R np : Int} {N : Int → Int} {gn : Nat → Int} (hF : FlOK C R np N gn) {c w : Int} (h0 : 0 ≤ w) (h : w < 343) : ∀ (n : Nat) (b : Int), 0 ≤ wRn N c n b w ∧ wRn N c n b w < pw7 n := by
  intro n b
  induction n with
  | zero => exact ⟨h0, h⟩
  | succ n ih => exact stR_b hF ih.1 ih.2
theorem wLn_b {C R np : Int} {N : Int → Int} {gn : Nat → Int} (hF : FlOK C R np N gn) {c : Int} : ∀ (n j : Nat) (b w : Int), 0 ≤ w → w < pw7 j → 0 ≤ wLn N c n b w ∧ wLn N c n b w < pw7 (j + n) := by
  intro n
  induction n with
  | zero => intro j b w h0 h; exact ⟨h0, h⟩
  | succ n ih =>
    intro j b w h0 h
    have h2 := stL_b hF (c := c) (r := b + n) h0 h
    have h3 := ih (j + 1) b _ h2.1 h2.2
    rw [show j + (n + 1) = j + 1 + n by omega]
    exact h3
/-- the place to which a step leads in a walk, -1 for none: a place is 343 * square + word -/
def aftZ (C R : Int) (N : Int → Int) (p d : Int) : Int :=
  if d = 0 then plZ C R N (p / 343 / 7) (p / 343 % 7 - 1) (p % 343)
  else if d = 1 then plZ C R N (p / 343 / 7 + 1) (p / 343 % 7) (wRZ N R (p / 343 / 7) (p / 343 % 7) (p % 343))
  else if d = 2 then plZ C R N (p / 343 / 7) (p / 343 % 7 + 1) (p % 343)
  else plZ C R N (p / 343 / 7 - 1) (p / 343 % 7) (wLZ N R (p / 343 / 7 - 1) (p / 343 % 7) (p % 343))
def lenZ (w : Int) : Int := if w = 0 then 0 else if w < 7 then 1 else if w < 49 then 2 else 3
def absZ (z : Int) : Int := if 0 ≤ z then z else 0 - z
end
section
section ZSW
variable {p : Program} {l : Launch} {e : Env} {R : Room} {s : State} {m : MethodId} {args : Array Value} {below : List Frame} {meth : Method} {c : Code} {H : Heap} {locs : List Loc} {cells slots : Nat} {Q : State → Prop}
variable {cc : ByteArray} {pc : Nat} {ls : Array Slot} {rest : List Value}
theorem zv_tableOut (hexec : p.tables.exec = Jvm.exec) (hb : c.code = cc) {dflt lo hi : Int} {offs : Array Int} {len : Nat} {z : Int} {tgt : Nat} (hdg : decode cc pc = .ok (.tableswitch dflt lo hi offs, len)) (hz : InR z) (h : z < lo ∨ hi < z) (ht : (pc : Int) + dflt = (tgt : Int))
    (k : W p l e R s m args below meth c H locs cells slots Q (F0 m tgt ls rest)) : W p l e R s m args below meth c H locs cells slots Q (F0 m pc ls (.int (iI z) :: rest)) := lv_tableOut hexec hb hdg (by rw [iI_int hz]; exact h) ht k
theorem zv_tableIn (hexec : p.tables.exec = Jvm.exec) (hb : c.code = cc) {dflt lo hi : Int} {offs : Array Int} {len : Nat} {z : Int} {off : Int} {tgt : Nat} (hdg : decode cc pc = .ok (.tableswitch dflt lo hi offs, len)) (hz : InR z) (h1 : ¬ z < lo) (h2 : ¬ hi < z) (ho : offs[(z - lo).toNat]? = some off) (ht : (pc : Int) + off = (tgt : Int))
    (k : W p l e R s m args below meth c H locs cells slots Q (F0 m tgt ls rest)) : W p l e R s m args below meth c H locs cells slots Q (F0 m pc ls (.int (iI z) :: rest)) := lv_tableIn hexec hb hdg (by rw [iI_int hz]; exact h1) (by rw [iI_int hz]; exact h2) (by rw [iI_int hz]; exact ho) ht k
end ZSW
theorem aftZ_0 (C R : Int) (N : Int → Int) (p : Int) : aftZ C R N p 0 = plZ C R N (p / 343 / 7) (p / 343 % 7 - 1) (p % 343) := by unfold aftZ; rw [if_pos rfl]
theorem aftZ_1 (C R : Int) (N : Int → Int) (p : Int) : aftZ C R N p 1 = plZ C R N (p / 343 / 7 + 1) (p / 343 % 7) (wRZ N R (p / 343 / 7) (p / 343 % 7) (p % 343)) := by unfold aftZ; rw [if_neg (by decide), if_pos rfl]
theorem aftZ_2 (C R : Int) (N : Int → Int) (p : Int) : aftZ C R N p 2 = plZ C R N (p / 343 / 7) (p / 343 % 7 + 1) (p % 343) := by unfold aftZ; rw [if_neg (by decide), if_neg (by decide), if_pos rfl]
theorem aftZ_3 (C R : Int) (N : Int → Int) (p : Int) : aftZ C R N p 3 = plZ C R N (p / 343 / 7 - 1) (p / 343 % 7) (wLZ N R (p / 343 / 7 - 1) (p / 343 % 7) (p % 343)) := by unfold aftZ; rw [if_neg (by decide), if_neg (by decide), if_neg (by decide)]
theorem wRZ_b {C R np : Int} {N : Int → Int} {gn : Nat → Int} (hF : FlOK C R np N gn) {c r w : Int} (hr : 0 ≤ r) (h0 : 0 ≤ w) (h : w < 343) : 0 ≤ wRZ N R c r w ∧ wRZ N R c r w < 282475249 := by
  have h1 := wRn_b hF (c := c) h0 h (R - 1 - r).toNat (r + 1)
  have h2 := pw7_le (R - 1 - r).toNat (by obtain ⟨-, -, -, h4, -⟩ := hF; omega)
  unfold wRZ
  omega
theorem wLZ_b {C R np : Int} {N : Int → Int} {gn : Nat → Int} (hF : FlOK C R np N gn) {c r w : Int} (hr : 0 ≤ r) (h0 : 0 ≤ w) (h : w < 343) : 0 ≤ wLZ N R c r w ∧ wLZ N R c r w < 282475249 := by
  have h1 := wLn_b hF (c := c) (R - 1 - r).toNat 0 (r + 1) w h0 h
  rw [Nat.zero_add] at h1
  have h2 := pw7_le (R - 1 - r).toNat (by obtain ⟨-, -, -, h4, -⟩ := hF; omega)
  unfold wLZ
  omega
end
section
set_option maxRecDepth 100000 in
set_option maxHeartbeats 4000000 in
theorem c_X2_squareAt (l : Launch) (D : va_G) (cI cJ : ClassId) (a b : Int) : PM l yX2_squareAt (.code yX2_squareAt cX2_squareAt 2 (some .int)) 0 [.int (iI a), .int (iI b)] D cI cJ [] (fun r => r = a * 7 + b) := by
  refine PM_of (by decide) rfl (Nat.le_of_ble_eq_true rfl) (fun p e s m below meth c ls hx hb hr hts hown hlk hml hK hP hl => ?_)
  have hl : lv_has ls 2 [(0, .int (iI a)), (1, .int (iI b))] := hl
  refine lv_iload_n hx hb dX2_squareAt_0 rfl (lv_at hl 0 rfl) ?_
  refine zv_bipush hx hb dX2_squareAt_1 (by decide) ?_
  refine zv_imul hx hb dX2_squareAt_3 ?_
  refine lv_iload_n hx hb dX2_squareAt_4 rfl (lv_at hl 1 rfl) ?_
  refine zv_iadd hx hb dX2_squareAt_5 ?_
  exact PM_iret hx hb hr hlk dX2_squareAt_6 (by first | rfl | omega)
set_option maxRecDepth 100000 in
set_option maxHeartbeats 4000000 in
theorem c_X2_columnOf (l : Launch) (D : va_G) (cI cJ : ClassId) (q : Int) (hq0 : 0 ≤ q) (hq1 : q < 2147483648) : PM l yX2_columnOf (.code yX2_columnOf cX2_columnOf 1 (some .int)) 0 [.int (iI q)] D cI cJ [] (fun r => r = q / 7) := by
  refine PM_of (by decide) rfl (Nat.le_of_ble_eq_true rfl) (fun p e s m below meth c ls hx hb hr hts hown hlk hml hK hP hl => ?_)
  have hl : lv_has ls 1 [(0, .int (iI q))] := hl
  refine lv_iload_n hx hb dX2_columnOf_0 rfl (lv_at hl 0 rfl) ?_
  refine zv_bipush hx hb dX2_columnOf_1 (by decide) ?_
  refine zv_idiv hx hb dX2_columnOf_3 (by omega) (by omega) (by omega) (by omega) ?_
  exact PM_iret hx hb hr hlk dX2_columnOf_4 (by first | rfl | omega)
set_option maxRecDepth 100000 in
set_option maxHeartbeats 4000000 in
theorem c_X2_rowOf (l : Launch) (D : va_G) (cI cJ : ClassId) (q : Int) (hq0 : 0 ≤ q) (hq1 : q < 2147483648) : PM l yX2_rowOf (.code yX2_rowOf cX2_rowOf 1 (some .int)) 0 [.int (iI q)] D cI cJ [] (fun r => r = q % 7) := by
  refine PM_of (by decide) rfl (Nat.le_of_ble_eq_true rfl) (fun p e s m below meth c ls hx hb hr hts hown hlk hml hK hP hl => ?_)
  have hl : lv_has ls 1 [(0, .int (iI q))] := hl
  refine lv_iload_n hx hb dX2_rowOf_0 rfl (lv_at hl 0 rfl) ?_
  refine zv_bipush hx hb dX2_rowOf_1 (by decide) ?_
  refine zv_irem hx hb dX2_rowOf_3 (by omega) (by omega) (by omega) (by omega) ?_
  exact PM_iret hx hb hr hlk dX2_rowOf_4 (by first | rfl | omega)
set_option maxRecDepth 100000 in
set_option maxHeartbeats 4000000 in
theorem c_X2_placeOf (l : Launch) (D : va_G) (cI cJ : ClassId) (q w : Int) : PM l yX2_placeOf (.code yX2_placeOf cX2_placeOf 2 (some .int)) 0 [.int (iI q), .int (iI w)] D cI cJ [] (fun r => r = q * 343 + w) := by
  refine PM_of (by decide) rfl (Nat.le_of_ble_eq_true rfl) (fun p e s m below meth c ls hx hb hr hts hown hlk hml hK hP hl => ?_)
  have hl : lv_has ls 2 [(0, .int (iI q)), (1, .int (iI w))] := hl
  refine lv_iload_n hx hb dX2_placeOf_0 rfl (lv_at hl 0 rfl) ?_
  refine zv_sipush hx hb dX2_placeOf_1 (by decide) ?_
  refine zv_imul hx hb dX2_placeOf_4 ?_
  refine lv_iload_n hx hb dX2_placeOf_5 rfl (lv_at hl 1 rfl) ?_
  refine zv_iadd hx hb dX2_placeOf_6 ?_
  exact PM_iret hx hb hr hlk dX2_placeOf_7 (by first | rfl | omega)
set_option maxRecDepth 100000 in
set_option maxHeartbeats 4000000 in
theorem c_X2_squareOf (l : Launch) (D : va_G) (cI cJ : ClassId) (q : Int) (hq0 : 0 ≤ q) (hq1 : q < 2147483648) : PM l yX2_squareOf (.code yX2_squareOf cX2_squareOf 1 (some .int)) 0 [.int (iI q)] D cI cJ [] (fun r => r = q / 343) := by
  refine PM_of (by decide) rfl (Nat.le_of_ble_eq_true rfl) (fun p e s m below meth c ls hx hb hr hts hown hlk hml hK hP hl => ?_)
  have hl : lv_has ls 1 [(0, .int (iI q))] := hl
  refine lv_iload_n hx hb dX2_squareOf_0 rfl (lv_at hl 0 rfl) ?_
  refine zv_sipush hx hb dX2_squareOf_1 (by decide) ?_
  refine zv_idiv hx hb dX2_squareOf_4 (by omega) (by omega) (by omega) (by omega) ?_
  exact PM_iret hx hb hr hlk dX2_squareOf_5 (by first | rfl | omega)
set_option maxRecDepth 100000 in
set_option maxHeartbeats 4000000 in
theorem c_X2_wordOf (l : Launch) (D : va_G) (cI cJ : ClassId) (q : Int) (hq0 : 0 ≤ q) (hq1 : q < 2147483648) : PM l yX2_wordOf (.code yX2_wordOf cX2_wordOf 1 (some .int)) 0 [.int (iI q)] D cI cJ [] (fun r => r = q % 343) := by
  refine PM_of (by decide) rfl (Nat.le_of_ble_eq_true rfl) (fun p e s m below meth c ls hx hb hr hts hown hlk hml hK hP hl => ?_)
  have hl : lv_has ls 1 [(0, .int (iI q))] := hl
  refine lv_iload_n hx hb dX2_wordOf_0 rfl (lv_at hl 0 rfl) ?_
  refine zv_sipush hx hb dX2_wordOf_1 (by decide) ?_
  refine zv_irem hx hb dX2_wordOf_4 (by omega) (by omega) (by omega) (by omega) ?_
  exact PM_iret hx hb hr hlk dX2_wordOf_5 (by first | rfl | omega)
set_option maxRecDepth 100000 in
set_option maxHeartbeats 4000000 in
theorem c_X2_lastLetterOf (l : Launch) (D : va_G) (cI cJ : ClassId) (w : Int) (hw0 : 0 ≤ w) (hw1 : w < 2147483648) : PM l yX2_lastLetterOf (.code yX2_lastLetterOf cX2_lastLetterOf 1 (some .int)) 0 [.int (iI w)] D cI cJ [] (fun r => r = w % 7 - 1) := by
  refine PM_of (by decide) rfl (Nat.le_of_ble_eq_true rfl) (fun p e s m below meth c ls hx hb hr hts hown hlk hml hK hP hl => ?_)
  have hl : lv_has ls 1 [(0, .int (iI w))] := hl
  refine lv_iload_n hx hb dX2_lastLetterOf_0 rfl (lv_at hl 0 rfl) ?_
  refine zv_bipush hx hb dX2_lastLetterOf_1 (by decide) ?_
  refine zv_irem hx hb dX2_lastLetterOf_3 (by omega) (by omega) (by omega) (by omega) ?_
  refine zv_iconst hx hb dX2_lastLetterOf_4 ?_
  refine zv_isub hx hb dX2_lastLetterOf_5 ?_
  exact PM_iret hx hb hr hlk dX2_lastLetterOf_6 (by first | rfl | omega)
set_option maxRecDepth 100000 in
set_option maxHeartbeats 4000000 in
theorem c_X2_oppositeOf (l : Launch) (D : va_G) (cI cJ : ClassId) (k : Int) (hk0 : 0 ≤ k) (hk1 : k < 6) : PM l yX2_oppositeOf (.code yX2_oppositeOf cX2_oppositeOf 1 (some .int)) 0 [.int (iI k)] D cI cJ [] (fun r => r = oppZ k) := by
  refine PM_of (by decide) rfl (Nat.le_of_ble_eq_true rfl) (fun p e s m below meth c ls hx hb hr hts hown hlk hml hK hP hl => ?_)
  have hl : lv_has ls 1 [(0, .int (iI k))] := hl
  refine lv_iload_n hx hb dX2_oppositeOf_0 rfl (lv_at hl 0 rfl) ?_
  refine zv_iconst hx hb dX2_oppositeOf_1 ?_
  refine zv_ixor1 hx hb dX2_oppositeOf_2 (by omega) (by omega) ?_
  exact PM_iret hx hb hr hlk dX2_oppositeOf_3 (by first | rfl | omega)
set_option maxRecDepth 100000 in
set_option maxHeartbeats 4000000 in
theorem c_X2_withLetter (l : Launch) (D : va_G) (cI cJ : ClassId) (w k : Int) (hw0 : 0 ≤ w) (hw1 : w < 2147483648) (hk0 : 0 ≤ k) (hk1 : k < 6) : PM l yX2_withLetter (.code yX2_withLetter cX2_withLetter 2 (some .int)) 1 [.int (iI w), .int (iI k)] D cI cJ [] (fun r => r = wjZ w k) := by
  refine PM_of (by decide) rfl (Nat.le_of_ble_eq_true rfl) (fun p e s m below meth c ls hx hb hr hts hown hlk hml hK hP hl => ?_)
  have hl : lv_has ls 2 [(0, .int (iI w)), (1, .int (iI k))] := hl
  refine lv_iload_n hx hb dX2_withLetter_0 rfl (lv_at hl 0 rfl) ?_
  refine zc_S (As := [.int (iI w)]) (rest := []) (ws := []) (n := 1) hx hb (hml.trans hl.1.symm) hts hown hK hP (c_X2_lastLetterOf l D cI cJ w (by omega) (by omega)) (gd_S q_138 q_139 q_1 q_140) (by decide +kernel) rfl ⟨Nat.le_of_ble_eq_true rfl, Nat.le_of_ble_eq_true rfl⟩ ⟨Nat.zero_le _, Nat.zero_le _⟩ [] rfl rfl (Nat.le_of_ble_eq_true rfl) dX2_withLetter_1 (fun r_1 hr_1 => ?_)
  subst hr_1
  refine lv_iload_n hx hb dX2_withLetter_4 rfl (lv_at hl 1 rfl) ?_
  refine zc_S (As := [.int (iI k)]) (rest := [.int (iI (w % 7 - 1))]) (ws := []) (n := 1) hx hb (hml.trans hl.1.symm) hts hown hK hP (c_X2_oppositeOf l D cI cJ k (by omega) (by omega)) (gd_S q_141 q_142 q_1 q_143) (by decide +kernel) rfl ⟨Nat.le_of_ble_eq_true rfl, Nat.le_of_ble_eq_true rfl⟩ ⟨Nat.zero_le _, Nat.zero_le _⟩ [] rfl rfl (Nat.le_of_ble_eq_true rfl) dX2_withLetter_5 (fun r_2 hr_2 => ?_)
  subst hr_2
  have hop := oppZ_b (k := k) (by omega) (by omega)
  refine zv_icmp_ne hx hb dX2_withLetter_8 (tgt := 16) (by decide) ⟨by omega, by omega⟩ ⟨by omega, by omega⟩ (fun c_3 => ?_) (fun c_3 => ?_)
  · refine lv_iload_n hx hb dX2_withLetter_16 rfl (lv_at hl 0 rfl) ?_
    refine zv_bipush hx hb dX2_withLetter_17 (by decide) ?_
    refine zv_imul hx hb dX2_withLetter_19 ?_
    refine lv_iload_n hx hb dX2_withLetter_20 rfl (lv_at hl 1 rfl) ?_
    refine zv_iadd hx hb dX2_withLetter_21 ?_
    refine zv_iconst hx hb dX2_withLetter_22 ?_
    refine zv_iadd hx hb dX2_withLetter_23 ?_
    exact PM_iret hx hb hr hlk dX2_withLetter_24 (by unfold wjZ; split <;> omega)
  · refine lv_iload_n hx hb dX2_withLetter_11 rfl (lv_at hl 0 rfl) ?_
    refine zv_bipush hx hb dX2_withLetter_12 (by decide) ?_
    refine zv_idiv hx hb dX2_withLetter_14 (by omega) (by omega) (by omega) (by omega) ?_
    exact PM_iret hx hb hr hlk dX2_withLetter_15 (by unfold wjZ; split <;> omega)
set_option maxRecDepth 100000 in
set_option maxHeartbeats 4000000 in
theorem c_X2_lettersOf (l : Launch) (D : va_G) (cI cJ : ClassId) (w : Int) (hw0 : 0 ≤ w) (hw1 : w < 343) : PM l yX2_lettersOf (.code yX2_lettersOf cX2_lettersOf 3 (some .int)) 0 [.int (iI w)] D cI cJ [] (fun r => r = lenZ w) := by
  refine PM_of (by decide) rfl (Nat.le_of_ble_eq_true rfl) (fun p e s m below meth c ls hx hb hr hts hown hlk hml hK hP hl => ?_)
  have hl : lv_has ls 3 [(0, .int (iI w))] := hl
  refine zv_iconst hx hb dX2_lettersOf_0 ?_
  refine lv_istore_n (lv' := [(1, .int (iI 0)), (0, .int (iI w))]) hx hb dX2_lettersOf_1 rfl hl (by decide) rfl (fun ls hl => ?_)
  refine lv_iload_n hx hb dX2_lettersOf_2 rfl (lv_at hl 1 rfl) ?_
  refine lv_istore_n (lv' := [(2, .int (iI w)), (1, .int (iI 0)), (0, .int (iI w))]) hx hb dX2_lettersOf_3 rfl hl (by decide) rfl (fun ls hl => ?_)
  refine lv_iload_n hx hb dX2_lettersOf_4 rfl (lv_at hl 0 rfl) ?_
  refine zv_if_le hx hb dX2_lettersOf_5 (tgt := 24) (by decide) ⟨by omega, by omega⟩ (fun c_1 => ?_) (fun c_1 => ?_)
  · refine lv_iload_n hx hb dX2_lettersOf_24 rfl (lv_at hl 1 rfl) ?_
    exact PM_iret hx hb hr hlk dX2_lettersOf_25 (by unfold lenZ; (repeat' split) <;> omega)
  · refine lv_iload_n hx hb dX2_lettersOf_8 rfl (lv_at hl 1 rfl) ?_
    refine zv_iconst hx hb dX2_lettersOf_9 ?_
    refine zv_icmp_ge hx hb dX2_lettersOf_10 (tgt := 24) (by decide) ⟨by omega, by omega⟩ ⟨by omega, by omega⟩ (fun c_2 => by exfalso; omega) (fun c_2 => ?_)
    refine lv_iload_n hx hb dX2_lettersOf_13 rfl (lv_at hl 0 rfl) ?_
    refine zv_bipush hx hb dX2_lettersOf_14 (by decide) ?_
    refine zv_idiv hx hb dX2_lettersOf_16 (by omega) (by omega) (by omega) (by omega) ?_
    refine lv_istore_n (lv' := [(2, .int (iI (w / 7))), (1, .int (iI 0)), (0, .int (iI w))]) hx hb dX2_lettersOf_17 rfl hl (by decide) rfl (fun ls hl => ?_)
    refine zv_iinc (k := 1) (lv' := [(1, .int (iI 1)), (2, .int (iI (w / 7))), (0, .int (iI w))]) hx hb dX2_lettersOf_18 hl rfl (by decide) rfl (fun ls hl => ?_)
    refine lv_goto (tgt := 4) hx hb dX2_lettersOf_21 (by decide) ?_
    refine lv_iload_n hx hb dX2_lettersOf_4 rfl (lv_at hl 1 rfl) ?_
    refine zv_if_le hx hb dX2_lettersOf_5 (tgt := 24) (by decide) ⟨by omega, by omega⟩ (fun c_3 => ?_) (fun c_3 => ?_)
    · refine lv_iload_n hx hb dX2_lettersOf_24 rfl (lv_at hl 0 rfl) ?_
      exact PM_iret hx hb hr hlk dX2_lettersOf_25 (by unfold lenZ; (repeat' split) <;> omega)
    · refine lv_iload_n hx hb dX2_lettersOf_8 rfl (lv_at hl 0 rfl) ?_
      refine zv_iconst hx hb dX2_lettersOf_9 ?_
      refine zv_icmp_ge hx hb dX2_lettersOf_10 (tgt := 24) (by decide) ⟨by omega, by omega⟩ ⟨by omega, by omega⟩ (fun c_4 => by exfalso; omega) (fun c_4 => ?_)
      refine lv_iload_n hx hb dX2_lettersOf_13 rfl (lv_at hl 1 rfl) ?_
      refine zv_bipush hx hb dX2_lettersOf_14 (by decide) ?_
      refine zv_idiv hx hb dX2_lettersOf_16 (by omega) (by omega) (by omega) (by omega) ?_
      refine lv_istore_n (lv' := [(2, .int (iI ((w / 7) / 7))), (1, .int (iI 1)), (0, .int (iI w))]) hx hb dX2_lettersOf_17 rfl hl (by decide) rfl (fun ls hl => ?_)
      refine zv_iinc (k := 1) (lv' := [(1, .int (iI 2)), (2, .int (iI ((w / 7) / 7))), (0, .int (iI w))]) hx hb dX2_lettersOf_18 hl rfl (by decide) rfl (fun ls hl => ?_)
      refine lv_goto (tgt := 4) hx hb dX2_lettersOf_21 (by decide) ?_
      refine lv_iload_n hx hb dX2_lettersOf_4 rfl (lv_at hl 1 rfl) ?_
      refine zv_if_le hx hb dX2_lettersOf_5 (tgt := 24) (by decide) ⟨by omega, by omega⟩ (fun c_5 => ?_) (fun c_5 => ?_)
      · refine lv_iload_n hx hb dX2_lettersOf_24 rfl (lv_at hl 0 rfl) ?_
        exact PM_iret hx hb hr hlk dX2_lettersOf_25 (by unfold lenZ; (repeat' split) <;> omega)
      · refine lv_iload_n hx hb dX2_lettersOf_8 rfl (lv_at hl 0 rfl) ?_
        refine zv_iconst hx hb dX2_lettersOf_9 ?_
        refine zv_icmp_ge hx hb dX2_lettersOf_10 (tgt := 24) (by decide) ⟨by omega, by omega⟩ ⟨by omega, by omega⟩ (fun c_6 => by exfalso; omega) (fun c_6 => ?_)
        refine lv_iload_n hx hb dX2_lettersOf_13 rfl (lv_at hl 1 rfl) ?_
        refine zv_bipush hx hb dX2_lettersOf_14 (by decide) ?_
        refine zv_idiv hx hb dX2_lettersOf_16 (by omega) (by omega) (by omega) (by omega) ?_
        refine lv_istore_n (lv' := [(2, .int (iI (((w / 7) / 7) / 7))), (1, .int (iI 2)), (0, .int (iI w))]) hx hb dX2_lettersOf_17 rfl hl (by decide) rfl (fun ls hl => ?_)
        refine zv_iinc (k := 1) (lv' := [(1, .int (iI 3)), (2, .int (iI (((w / 7) / 7) / 7))), (0, .int (iI w))]) hx hb dX2_lettersOf_18 hl rfl (by decide) rfl (fun ls hl => ?_)
        refine lv_goto (tgt := 4) hx hb dX2_lettersOf_21 (by decide) ?_
        refine lv_iload_n hx hb dX2_lettersOf_4 rfl (lv_at hl 1 rfl) ?_
        refine zv_if_le hx hb dX2_lettersOf_5 (tgt := 24) (by decide) ⟨by omega, by omega⟩ (fun c_7 => ?_) (fun c_7 => ?_)
        · refine lv_iload_n hx hb dX2_lettersOf_24 rfl (lv_at hl 0 rfl) ?_
          exact PM_iret hx hb hr hlk dX2_lettersOf_25 (by unfold lenZ; (repeat' split) <;> omega)
        · refine lv_iload_n hx hb dX2_lettersOf_8 rfl (lv_at hl 0 rfl) ?_
          refine zv_iconst hx hb dX2_lettersOf_9 ?_
          refine zv_icmp_ge hx hb dX2_lettersOf_10 (tgt := 24) (by decide) ⟨by omega, by omega⟩ ⟨by omega, by omega⟩ (fun c_8 => ?_) (fun c_8 => by exfalso; omega)
          refine lv_iload_n hx hb dX2_lettersOf_24 rfl (lv_at hl 0 rfl) ?_
          exact PM_iret hx hb hr hlk dX2_lettersOf_25 (by unfold lenZ; (repeat' split) <;> omega)
set_option maxRecDepth 100000 in
set_option maxHeartbeats 4000000 in
theorem c_X2_between (l : Launch) (D : va_G) (cI cJ : ClassId) (a b d : Int) (ha : InR a) (hb : InR b) (hd : InR d) : PM l yX2_between (.code yX2_between cX2_between 3 (some .int)) 1 [.int (iI a), .int (iI b), .int (iI d)] D cI cJ [] (fun r => r = (if a < (if d < b then d else b) then (if d < b then d else b) else a)) := by
  obtain ⟨ha1, ha2⟩ := ha
  obtain ⟨hb1, hb2⟩ := hb
  obtain ⟨hd1, hd2⟩ := hd
  refine PM_of (by decide) rfl (Nat.le_of_ble_eq_true rfl) (fun p e s m below meth c ls hx hb hr hts hown hlk hml hK hP hl => ?_)
  have hl : lv_has ls 3 [(0, .int (iI a)), (1, .int (iI b)), (2, .int (iI d))] := hl
  refine lv_iload_n hx hb dX2_between_0 rfl (lv_at hl 0 rfl) ?_
  refine lv_iload_n hx hb dX2_between_1 rfl (lv_at hl 1 rfl) ?_
  refine lv_iload_n hx hb dX2_between_2 rfl (lv_at hl 2 rfl) ?_
  refine zj_min hx hb (hml.trans hl.1.symm) hown (hts _ q_44) (hts _ q_45) (hts _ q_4) (hts _ q_46) (Nat.le_of_ble_eq_true rfl) (Nat.le_of_ble_eq_true rfl) (Nat.zero_le _) (Nat.zero_le _) ⟨by omega, by omega⟩ ⟨by omega, by omega⟩ dX2_between_3 ?_
  refine zj_max hx hb (hml.trans hl.1.symm) hown (hts _ q_47) (hts _ q_48) (hts _ q_4) (hts _ q_49) (Nat.le_of_ble_eq_true rfl) (Nat.le_of_ble_eq_true rfl) (Nat.zero_le _) (Nat.zero_le _) ⟨by omega, by omega⟩ ⟨by omega, by omega⟩ dX2_between_6 ?_
  exact PM_iret hx hb hr hlk dX2_between_9 (by first | rfl | omega)
set_option maxRecDepth 100000 in
set_option maxHeartbeats 4000000 in
theorem c_X2_apart (l : Launch) (D : va_G) (cI cJ : ClassId) (a b : Int) (ha0 : 0 ≤ a) (ha1 : a < 49) (hb0 : 0 ≤ b) (hb1 : b < 49) : PM l yX2_apart (.code yX2_apart cX2_apart 2 (some .int)) 1 [.int (iI a), .int (iI b)] D cI cJ [] (fun r => r = absZ (a / 7 - b / 7) + absZ (a % 7 - b % 7)) := by
  refine PM_of (by decide) rfl (Nat.le_of_ble_eq_true rfl) (fun p e s m below meth c ls hx hb hr hts hown hlk hml hK hP hl => ?_)
  have hl : lv_has ls 2 [(0, .int (iI a)), (1, .int (iI b))] := hl
  refine lv_iload_n hx hb dX2_apart_0 rfl (lv_at hl 0 rfl) ?_
  refine zc_S (As := [.int (iI a)]) (rest := []) (ws := []) (n := 1) hx hb (hml.trans hl.1.symm) hts hown hK hP (c_X2_columnOf l D cI cJ a (by omega) (by omega)) (gd_S q_184 q_105 q_1 q_106) (by decide +kernel) rfl ⟨Nat.le_of_ble_eq_true rfl, Nat.le_of_ble_eq_true rfl⟩ ⟨Nat.zero_le _, Nat.zero_le _⟩ [] rfl rfl (Nat.le_of_ble_eq_true rfl) dX2_apart_1 (fun r_1 hr_1 => ?_)
  subst hr_1
  refine lv_iload_n hx hb dX2_apart_4 rfl (lv_at hl 1 rfl) ?_
  refine zc_S (As := [.int (iI b)]) (rest := [.int (iI (a / 7))]) (ws := []) (n := 1) hx hb (hml.trans hl.1.symm) hts hown hK hP (c_X2_columnOf l D cI cJ b (by omega) (by omega)) (gd_S q_184 q_105 q_1 q_106) (by decide +kernel) rfl ⟨Nat.le_of_ble_eq_true rfl, Nat.le_of_ble_eq_true rfl⟩ ⟨Nat.zero_le _, Nat.zero_le _⟩ [] rfl rfl (Nat.le_of_ble_eq_true rfl) dX2_apart_5 (fun r_2 hr_2 => ?_)
  subst hr_2
  refine zv_isub hx hb dX2_apart_8 ?_
  refine zj_abs hx hb (hml.trans hl.1.symm) hown (hts _ q_444) (hts _ q_445) (hts _ q_4) (hts _ q_446) (Nat.le_of_ble_eq_true rfl) (Nat.le_of_ble_eq_true rfl) (Nat.zero_le _) (Nat.zero_le _) ⟨by omega, by omega⟩ dX2_apart_9 ?_
  refine lv_iload_n hx hb dX2_apart_12 rfl (lv_at hl 0 rfl) ?_
  refine zc_S (As := [.int (iI a)]) (rest := [.int (iI (if 0 ≤ (a / 7 - b / 7) then (a / 7 - b / 7) else 0 - (a / 7 - b / 7)))]) (ws := []) (n := 1) hx hb (hml.trans hl.1.symm) hts hown hK hP (c_X2_rowOf l D cI cJ a (by omega) (by omega)) (gd_S q_189 q_108 q_1 q_109) (by decide +kernel) rfl ⟨Nat.le_of_ble_eq_true rfl, Nat.le_of_ble_eq_true rfl⟩ ⟨Nat.zero_le _, Nat.zero_le _⟩ [] rfl rfl (Nat.le_of_ble_eq_true rfl) dX2_apart_13 (fun r_3 hr_3 => ?_)
  subst hr_3
  refine lv_iload_n hx hb dX2_apart_16 rfl (lv_at hl 1 rfl) ?_
  refine zc_S (As := [.int (iI b)]) (rest := [.int (iI (a % 7)), .int (iI (if 0 ≤ (a / 7 - b / 7) then (a / 7 - b / 7) else 0 - (a / 7 - b / 7)))]) (ws := []) (n := 1) hx hb (hml.trans hl.1.symm) hts hown hK hP (c_X2_rowOf l D cI cJ b (by omega) (by omega)) (gd_S q_189 q_108 q_1 q_109) (by decide +kernel) rfl ⟨Nat.le_of_ble_eq_true rfl, Nat.le_of_ble_eq_true rfl⟩ ⟨Nat.zero_le _, Nat.zero_le _⟩ [] rfl rfl (Nat.le_of_ble_eq_true rfl) dX2_apart_17 (fun r_4 hr_4 => ?_)
  subst hr_4
  refine zv_isub hx hb dX2_apart_20 ?_
  refine zj_abs hx hb (hml.trans hl.1.symm) hown (hts _ q_444) (hts _ q_445) (hts _ q_4) (hts _ q_446) (Nat.le_of_ble_eq_true rfl) (Nat.le_of_ble_eq_true rfl) (Nat.zero_le _) (Nat.zero_le _) ⟨by omega, by omega⟩ dX2_apart_21 ?_
  refine zv_iadd hx hb dX2_apart_24 ?_
  exact PM_iret hx hb hr hlk dX2_apart_25 (by first | rfl | omega)
set_option maxRecDepth 100000 in
set_option maxHeartbeats 4000000 in
theorem c_X0_has (l : Launch) (D : va_G) (cI cJ : ClassId) (fl pn : Nat) (C R np : Int) (gn : Nat → Int) (N : Int → Int) (a b : Int) (hF : FlOK C R np N gn) (ha1 : -2147483648 ≤ a) (ha2 : a < 2147483648) (hb1 : -2147483648 ≤ b) (hb2 : b < 2147483648) : PM l yX0_has (.code yX0_has cX0_has 3 (some .boolean)) 0 [.ref fl, .int (iI a), .int (iI b)] D cI cJ [(fl, .inr (0, [.int (iI C), .int (iI R), .ref pn, .int (iI np)])), (pn, .inl (cI, 49, .inl (aI gn)))] (fun r => (r = 1 ∧ (0 ≤ a ∧ a < C ∧ 0 ≤ b ∧ b < R)) ∨ (r = 0 ∧ ¬ (0 ≤ a ∧ a < C ∧ 0 ≤ b ∧ b < R))) := by
  obtain ⟨hC1, hC2, hR1, hR2, hp1, hp2, -, -⟩ := id hF
  refine PM_of (by decide) rfl (Nat.le_of_ble_eq_true rfl) (fun p e s m below meth c ls hx hb hr hts hown hlk hml hK hP hl => ?_)
  have hl : lv_has ls 3 [(0, .ref fl), (1, .int (iI a)), (2, .int (iI b))] := hl
  refine lv_iload_n hx hb dX0_has_0 rfl (lv_at hl 1 rfl) ?_
  refine zv_if_lt hx hb dX0_has_1 (tgt := 28) (by decide) ⟨by omega, by omega⟩ (fun c_1 => ?_) (fun c_1 => ?_)
  · refine zv_iconst hx hb dX0_has_28 ?_
    exact PM_zret hx hb hr hlk dX0_has_29 (by first | rfl | decide) (by omega)
  · refine lv_iload_n hx hb dX0_has_4 rfl (lv_at hl 1 rfl) ?_
    refine lv_aload_n hx hb dX0_has_5 rfl (lv_at hl 0 rfl) ?_
    refine va_get (D := D) (ci := 0) (v := .int (iI C)) (C := RX0) (T := TX0) (N := 4) hx hb hts uX0 hown hK.1 hP 0 rfl rfl 0 (by decide) (hts _ q_57) (fun _ h9 => h9) rfl dX0_has_6 ?_
    refine zv_icmp_ge hx hb dX0_has_9 (tgt := 28) (by decide) ⟨by omega, by omega⟩ ⟨by omega, by omega⟩ (fun c_2 => ?_) (fun c_2 => ?_)
    · refine zv_iconst hx hb dX0_has_28 ?_
      exact PM_zret hx hb hr hlk dX0_has_29 (by first | rfl | decide) (by omega)
    · refine lv_iload_n hx hb dX0_has_12 rfl (lv_at hl 2 rfl) ?_
      refine zv_if_lt hx hb dX0_has_13 (tgt := 28) (by decide) ⟨by omega, by omega⟩ (fun c_3 => ?_) (fun c_3 => ?_)
      · refine zv_iconst hx hb dX0_has_28 ?_
        exact PM_zret hx hb hr hlk dX0_has_29 (by first | rfl | decide) (by omega)
      · refine lv_iload_n hx hb dX0_has_16 rfl (lv_at hl 2 rfl) ?_
        refine lv_aload_n hx hb dX0_has_17 rfl (lv_at hl 0 rfl) ?_
        refine va_get (D := D) (ci := 0) (v := .int (iI R)) (C := RX0) (T := TX0) (N := 4) hx hb hts uX0 hown hK.1 hP 0 rfl rfl 1 (by decide) (hts _ q_58) (fun _ h9 => h9) rfl dX0_has_18 ?_
        refine zv_icmp_ge hx hb dX0_has_21 (tgt := 28) (by decide) ⟨by omega, by omega⟩ ⟨by omega, by omega⟩ (fun c_4 => ?_) (fun c_4 => ?_)
        · refine zv_iconst hx hb dX0_has_28 ?_
          exact PM_zret hx hb hr hlk dX0_has_29 (by first | rfl | decide) (by omega)
        · refine zv_iconst hx hb dX0_has_24 ?_
          refine lv_goto (tgt := 29) hx hb dX0_has_25 (by decide) ?_
          exact PM_zret hx hb hr hlk dX0_has_29 (by first | rfl | decide) (by omega)
set_option maxRecDepth 100000 in
set_option maxHeartbeats 4000000 in
theorem c_X0_isFull (l : Launch) (D : va_G) (cI cJ : ClassId) (fl pn : Nat) (C R np : Int) (gn : Nat → Int) (N : Int → Int) (hF : FlOK C R np N gn) : PM l yX0_isFull (.code yX0_isFull cX0_isFull 1 (some .boolean)) 0 [.ref fl] D cI cJ [(fl, .inr (0, [.int (iI C), .int (iI R), .ref pn, .int (iI np)])), (pn, .inl (cI, 49, .inl (aI gn)))] (fun r => (r = 1 ∧ np = 3) ∨ (r = 0 ∧ ¬ np = 3)) := by
  obtain ⟨hC1, hC2, hR1, hR2, hp1, hp2, -, -⟩ := id hF
  refine PM_of (by decide) rfl (Nat.le_of_ble_eq_true rfl) (fun p e s m below meth c ls hx hb hr hts hown hlk hml hK hP hl => ?_)
  have hl : lv_has ls 1 [(0, .ref fl)] := hl
  refine lv_aload_n hx hb dX0_isFull_0 rfl (lv_at hl 0 rfl) ?_
  refine va_get (D := D) (ci := 0) (v := .int (iI np)) (C := RX0) (T := TX0) (N := 4) hx hb hts uX0 hown hK.1 hP 0 rfl rfl 3 (by decide) (hts _ q_60) (fun _ h9 => h9) rfl dX0_isFull_1 ?_
  refine zv_iconst hx hb dX0_isFull_4 ?_
  refine zv_icmp_lt hx hb dX0_isFull_5 (tgt := 12) (by decide) ⟨by omega, by omega⟩ ⟨by omega, by omega⟩ (fun c_1 => ?_) (fun c_1 => ?_)
  · refine zv_iconst hx hb dX0_isFull_12 ?_
    exact PM_zret hx hb hr hlk dX0_isFull_13 (by first | rfl | decide) (by omega)
  · refine zv_iconst hx hb dX0_isFull_8 ?_
    refine lv_goto (tgt := 13) hx hb dX0_isFull_9 (by decide) ?_
    exact PM_zret hx hb hr hlk dX0_isFull_13 (by first | rfl | decide) (by omega)
set_option maxRecDepth 100000 in
set_option maxHeartbeats 4000000 in
theorem c_X0_pillarNumberOf (l : Launch) (D : va_G) (cI cJ : ClassId) (fl pn : Nat) (C R np : Int) (gn : Nat → Int) (N : Int → Int) (z : Int) (hF : FlOK C R np N gn) (hz1 : -2147483648 ≤ z) (hz2 : z < 2147483648) : PM l yX0_pillarNumberOf (.code yX0_pillarNumberOf cX0_pillarNumberOf 2 (some .int)) 0 [.ref fl, .int (iI z)] D cI cJ [(fl, .inr (0, [.int (iI C), .int (iI R), .ref pn, .int (iI np)])), (pn, .inl (cI, 49, .inl (aI gn)))] (fun r => r = N z) := by
  obtain ⟨hC1, hC2, hR1, hR2, hp1, hp2, -, -⟩ := id hF
  refine PM_of (by decide) rfl (Nat.le_of_ble_eq_true rfl) (fun p e s m below meth c ls hx hb hr hts hown hlk hml hK hP hl => ?_)
  have hl : lv_has ls 2 [(0, .ref fl), (1, .int (iI z))] := hl
  refine lv_iload_n hx hb dX0_pillarNumberOf_0 rfl (lv_at hl 1 rfl) ?_
  refine zv_if_lt hx hb dX0_pillarNumberOf_1 (tgt := 22) (by decide) ⟨by omega, by omega⟩ (fun c_1 => ?_) (fun c_1 => ?_)
  · refine zv_iconst hx hb dX0_pillarNumberOf_22 ?_
    exact PM_iret hx hb hr hlk dX0_pillarNumberOf_23 (by first | rfl | exact (hF.Nout z (by omega)).symm)
  · refine lv_iload_n hx hb dX0_pillarNumberOf_4 rfl (lv_at hl 1 rfl) ?_
    refine lv_aload_n hx hb dX0_pillarNumberOf_5 rfl (lv_at hl 0 rfl) ?_
    refine va_get (D := D) (ci := 0) (v := .ref pn) (C := RX0) (T := TX0) (N := 4) hx hb hts uX0 hown hK.1 hP 0 rfl rfl 2 (by decide) (hts _ q_59) (fun _ h9 => h9) rfl dX0_pillarNumberOf_6 ?_
    refine zv_alen hx hb hK.1 hP 1 0 rfl rfl dX0_pillarNumberOf_9 ?_
    refine zv_icmp_ge hx hb dX0_pillarNumberOf_10 (tgt := 22) (by decide) ⟨by omega, by omega⟩ ⟨by omega, by omega⟩ (fun c_2 => ?_) (fun c_2 => ?_)
    · refine zv_iconst hx hb dX0_pillarNumberOf_22 ?_
      exact PM_iret hx hb hr hlk dX0_pillarNumberOf_23 (by first | rfl | exact (hF.Nout z (by omega)).symm)
    · refine lv_aload_n hx hb dX0_pillarNumberOf_13 rfl (lv_at hl 0 rfl) ?_
      refine va_get (D := D) (ci := 0) (v := .ref pn) (C := RX0) (T := TX0) (N := 4) hx hb hts uX0 hown hK.1 hP 0 rfl rfl 2 (by decide) (hts _ q_59) (fun _ h9 => h9) rfl dX0_pillarNumberOf_14 ?_
      refine lv_iload_n hx hb dX0_pillarNumberOf_17 rfl (lv_at hl 1 rfl) ?_
      refine zv_iald hx hb hK.1 hP 1 0 rfl rfl (by omega) (by omega) (by omega) dX0_pillarNumberOf_18 ?_
      refine zv_top (y := N z) (hF.gn (by omega) (by omega)) ?_
      refine lv_goto (tgt := 23) hx hb dX0_pillarNumberOf_19 (by decide) ?_
      exact PM_iret hx hb hr hlk dX0_pillarNumberOf_23 (by first | rfl | exact (hF.Nout z (by omega)).symm)
set_option maxRecDepth 100000 in
set_option maxHeartbeats 4000000 in
theorem c_X0_isPillar (l : Launch) (D : va_G) (cI cJ : ClassId) (fl pn : Nat) (C R np : Int) (gn : Nat → Int) (N : Int → Int) (z : Int) (hF : FlOK C R np N gn) (hz1 : -2147483648 ≤ z) (hz2 : z < 2147483648) : PM l yX0_isPillar (.code yX0_isPillar cX0_isPillar 2 (some .boolean)) 1 [.ref fl, .int (iI z)] D cI cJ [(fl, .inr (0, [.int (iI C), .int (iI R), .ref pn, .int (iI np)])), (pn, .inl (cI, 49, .inl (aI gn)))] (fun r => (r = 1 ∧ N z ≠ -1) ∨ (r = 0 ∧ N z = -1)) := by
  obtain ⟨hC1, hC2, hR1, hR2, hp1, hp2, -, -⟩ := id hF
  refine PM_of (by decide) rfl (Nat.le_of_ble_eq_true rfl) (fun p e s m below meth c ls hx hb hr hts hown hlk hml hK hP hl => ?_)
  have hl : lv_has ls 2 [(0, .ref fl), (1, .int (iI z))] := hl
  refine lv_aload_n hx hb dX0_isPillar_0 rfl (lv_at hl 0 rfl) ?_
  refine lv_iload_n hx hb dX0_isPillar_1 rfl (lv_at hl 1 rfl) ?_
  refine zc_V (As := [.int (iI z)]) (rest := []) (ws := [(fl, .inr (0, [.int (iI C), .int (iI R), .ref pn, .int (iI np)])), (pn, .inl (cI, 49, .inl (aI gn)))]) (n := 1) hx hb (hml.trans hl.1.symm) hts hown hK hP (c_X0_pillarNumberOf l D cI cJ fl pn C R np gn N z hF (by omega) (by omega)) (gd_V q_126 q_128 q_1003 q_3 q_129) (by decide +kernel) rfl ⟨Nat.le_of_ble_eq_true rfl, Nat.le_of_ble_eq_true rfl⟩ ⟨Nat.zero_le _, Nat.zero_le _⟩ [0, 1] rfl 0 (ci := 0) rfl rfl rfl rfl (Nat.le_of_ble_eq_true rfl) dX0_isPillar_2 (fun r_1 hr_1 => ?_)
  subst hr_1
  refine zv_iconst hx hb dX0_isPillar_5 ?_
  have hN2 := hF.N2 z
  refine zv_icmp_eq hx hb dX0_isPillar_6 (tgt := 13) (by decide) ⟨by omega, by omega⟩ ⟨by omega, by omega⟩ (fun c_2 => ?_) (fun c_2 => ?_)
  · refine zv_iconst hx hb dX0_isPillar_13 ?_
    exact PM_zret hx hb hr hlk dX0_isPillar_14 (by first | rfl | decide) (by omega)
  · refine zv_iconst hx hb dX0_isPillar_9 ?_
    refine lv_goto (tgt := 14) hx hb dX0_isPillar_10 (by decide) ?_
    exact PM_zret hx hb hr hlk dX0_isPillar_14 (by first | rfl | decide) (by omega)
set_option maxRecDepth 100000 in
set_option maxHeartbeats 4000000 in
theorem c_X0_placeAt (l : Launch) (D : va_G) (cI cJ : ClassId) (fl pn : Nat) (C R np : Int) (gn : Nat → Int) (N : Int → Int) (a b w : Int) (hF : FlOK C R np N gn) (ha1 : -2 ≤ a) (ha2 : a ≤ 8) (hb1 : -2 ≤ b) (hb2 : b ≤ 8) (hw0 : 0 ≤ w) (hw1 : w < 2147483648) : PM l yX0_placeAt (.code yX0_placeAt cX0_placeAt 4 (some .int)) 2 [.ref fl, .int (iI a), .int (iI b), .int (iI w)] D cI cJ [(fl, .inr (0, [.int (iI C), .int (iI R), .ref pn, .int (iI np)])), (pn, .inl (cI, 49, .inl (aI gn)))] (fun r => r = plZ C R N a b w) := by
  obtain ⟨hC1, hC2, hR1, hR2, hp1, hp2, -, -⟩ := id hF
  refine PM_of (by decide) rfl (Nat.le_of_ble_eq_true rfl) (fun p e s m below meth c ls hx hb hr hts hown hlk hml hK hP hl => ?_)
  have hl : lv_has ls 4 [(0, .ref fl), (1, .int (iI a)), (2, .int (iI b)), (3, .int (iI w))] := hl
  refine lv_iload_n hx hb dX0_placeAt_0 rfl (lv_at hl 3 rfl) ?_
  refine zv_sipush hx hb dX0_placeAt_1 (by decide) ?_
  refine zv_icmp_ge hx hb dX0_placeAt_4 (tgt := 28) (by decide) ⟨by omega, by omega⟩ ⟨by omega, by omega⟩ (fun c_1 => ?_) (fun c_1 => ?_)
  · refine zv_iconst hx hb dX0_placeAt_28 ?_
    exact PM_iret hx hb hr hlk dX0_placeAt_29 (by unfold plZ; first | rw [if_neg (by omega)] | rw [if_pos ⟨by omega, by omega, by omega, by omega, by omega, by omega⟩])
  · refine lv_aload_n hx hb dX0_placeAt_7 rfl (lv_at hl 0 rfl) ?_
    refine lv_iload_n hx hb dX0_placeAt_8 rfl (lv_at hl 1 rfl) ?_
    refine lv_iload_n hx hb dX0_placeAt_9 rfl (lv_at hl 2 rfl) ?_
    refine zc_V (As := [.int (iI a), .int (iI b)]) (rest := []) (ws := [(fl, .inr (0, [.int (iI C), .int (iI R), .ref pn, .int (iI np)])), (pn, .inl (cI, 49, .inl (aI gn)))]) (n := 2) hx hb (hml.trans hl.1.symm) hts hown hK hP (c_X0_has l D cI cJ fl pn C R np gn N a b hF (by omega) (by omega) (by omega) (by omega)) (gd_V q_117 q_118 q_119 q_3 q_120) (by decide +kernel) rfl ⟨Nat.le_of_ble_eq_true rfl, Nat.le_of_ble_eq_true rfl⟩ ⟨Nat.zero_le _, Nat.zero_le _⟩ [0, 1] rfl 0 (ci := 0) rfl rfl rfl rfl (Nat.le_of_ble_eq_true rfl) dX0_placeAt_10 (fun r_2 hr_2 => ?_)
    refine zv_if_eq hx hb dX0_placeAt_13 (tgt := 28) (by decide) ⟨by omega, by omega⟩ (fun c_3 => ?_) (fun c_3 => ?_)
    · refine zv_iconst hx hb dX0_placeAt_28 ?_
      exact PM_iret hx hb hr hlk dX0_placeAt_29 (by unfold plZ; first | rw [if_neg (by omega)] | rw [if_pos ⟨by omega, by omega, by omega, by omega, by omega, by omega⟩])
    · refine lv_aload_n hx hb dX0_placeAt_16 rfl (lv_at hl 0 rfl) ?_
      refine lv_iload_n hx hb dX0_placeAt_17 rfl (lv_at hl 1 rfl) ?_
      refine lv_iload_n hx hb dX0_placeAt_18 rfl (lv_at hl 2 rfl) ?_
      refine zc_SN (As := [.int (iI a), .int (iI b)]) (rest := [.ref fl]) (ws := [(fl, .inr (0, [.int (iI C), .int (iI R), .ref pn, .int (iI np)])), (pn, .inl (cI, 49, .inl (aI gn)))]) (n := 2) hx hb (hml.trans hl.1.symm) hts hown hK hP (c_X2_squareAt l D cI cJ a b) q_72 q_71 q_1 (by decide +kernel) (by decide +kernel) rfl ⟨Nat.le_of_ble_eq_true rfl, Nat.le_of_ble_eq_true rfl⟩ ⟨Nat.zero_le _, Nat.zero_le _⟩ [] rfl rfl (Nat.le_of_ble_eq_true rfl) dX0_placeAt_19 (fun r_4 hr_4 => ?_)
      subst hr_4
      refine zc_V (As := [.int (iI (a * 7 + b))]) (rest := []) (ws := [(fl, .inr (0, [.int (iI C), .int (iI R), .ref pn, .int (iI np)])), (pn, .inl (cI, 49, .inl (aI gn)))]) (n := 1) hx hb (hml.trans hl.1.symm) hts hown hK hP (c_X0_isPillar l D cI cJ fl pn C R np gn N (a * 7 + b) hF (by omega) (by omega)) (gd_V q_122 q_123 q_124 q_3 q_125) (by decide +kernel) rfl ⟨Nat.le_of_ble_eq_true rfl, Nat.le_of_ble_eq_true rfl⟩ ⟨Nat.zero_le _, Nat.zero_le _⟩ [0, 1] rfl 0 (ci := 0) rfl rfl rfl rfl (Nat.le_of_ble_eq_true rfl) dX0_placeAt_22 (fun r_5 hr_5 => ?_)
      refine zv_if_eq hx hb dX0_placeAt_25 (tgt := 30) (by decide) ⟨by omega, by omega⟩ (fun c_6 => ?_) (fun c_6 => ?_)
      · refine lv_iload_n hx hb dX0_placeAt_30 rfl (lv_at hl 1 rfl) ?_
        refine lv_iload_n hx hb dX0_placeAt_31 rfl (lv_at hl 2 rfl) ?_
        refine zc_SN (As := [.int (iI a), .int (iI b)]) (rest := []) (ws := [(fl, .inr (0, [.int (iI C), .int (iI R), .ref pn, .int (iI np)])), (pn, .inl (cI, 49, .inl (aI gn)))]) (n := 2) hx hb (hml.trans hl.1.symm) hts hown hK hP (c_X2_squareAt l D cI cJ a b) q_72 q_71 q_1 (by decide +kernel) (by decide +kernel) rfl ⟨Nat.le_of_ble_eq_true rfl, Nat.le_of_ble_eq_true rfl⟩ ⟨Nat.zero_le _, Nat.zero_le _⟩ [] rfl rfl (Nat.le_of_ble_eq_true rfl) dX0_placeAt_32 (fun r_7 hr_7 => ?_)
        subst hr_7
        refine lv_iload_n hx hb dX0_placeAt_35 rfl (lv_at hl 3 rfl) ?_
        refine zc_SN (As := [.int (iI (a * 7 + b)), .int (iI w)]) (rest := []) (ws := [(fl, .inr (0, [.int (iI C), .int (iI R), .ref pn, .int (iI np)])), (pn, .inl (cI, 49, .inl (aI gn)))]) (n := 2) hx hb (hml.trans hl.1.symm) hts hown hK hP (c_X2_placeOf l D cI cJ (a * 7 + b) w) q_75 q_74 q_1 (by decide +kernel) (by decide +kernel) rfl ⟨Nat.le_of_ble_eq_true rfl, Nat.le_of_ble_eq_true rfl⟩ ⟨Nat.zero_le _, Nat.zero_le _⟩ [] rfl rfl (Nat.le_of_ble_eq_true rfl) dX0_placeAt_36 (fun r_8 hr_8 => ?_)
        subst hr_8
        exact PM_iret hx hb hr hlk dX0_placeAt_39 (by unfold plZ; first | rw [if_neg (by omega)] | rw [if_pos ⟨by omega, by omega, by omega, by omega, by omega, by omega⟩])
      · refine zv_iconst hx hb dX0_placeAt_28 ?_
        exact PM_iret hx hb hr hlk dX0_placeAt_29 (by unfold plZ; first | rw [if_neg (by omega)] | rw [if_pos ⟨by omega, by omega, by omega, by omega, by omega, by omega⟩])
end
section
set_option maxRecDepth 100000 in
set_option maxHeartbeats 4000000 in
theorem c_X0_wordToTheRight (l : Launch) (D : va_G) (cI cJ : ClassId) (fl pn : Nat) (C R np : Int) (gn : Nat → Int) (N : Int → Int) (w a b : Int) (hF : FlOK C R np N gn) (ha1 : -2 ≤ a) (ha2 : a ≤ 8) (hb1 : 0 ≤ b) (hb2 : b < R) (hw0 : 0 ≤ w) (hw1 : w < 343) : PM l yX0_wordToTheRight (.code yX0_wordToTheRight cX0_wordToTheRight 7 (some .int)) 3 [.ref fl, .int (iI w), .int (iI a), .int (iI b)] D cI cJ [(fl, .inr (0, [.int (iI C), .int (iI R), .ref pn, .int (iI np)])), (pn, .inl (cI, 49, .inl (aI gn)))] (fun r => r = wRZ N R a b w) := by
  obtain ⟨hC1, hC2, hR1, hR2, hp1, hp2, -, -⟩ := id hF
  refine PM_of (by decide) rfl (Nat.le_of_ble_eq_true rfl) (fun p e s m below meth c ls hx hb hr hts hown hlk hml hK hP hl => ?_)
  have hl : lv_has ls 7 [(0, .ref fl), (1, .int (iI w)), (2, .int (iI a)), (3, .int (iI b))] := hl
  refine lv_iload_n hx hb dX0_wordToTheRight_0 rfl (lv_at hl 1 rfl) ?_
  refine lv_istore (lv' := [(4, .int (iI w)), (0, .ref fl), (1, .int (iI w)), (2, .int (iI a)), (3, .int (iI b))]) hx hb dX0_wordToTheRight_1 hl (by decide) rfl (fun ls hl => ?_)
  refine lv_iload_n hx hb dX0_wordToTheRight_3 rfl (lv_at hl 4 rfl) ?_
  refine zv_iconst hx hb dX0_wordToTheRight_4 ?_
  refine zv_iadd hx hb dX0_wordToTheRight_5 ?_
  refine lv_istore (lv' := [(5, .int (iI (b + 1))), (4, .int (iI w)), (0, .ref fl), (1, .int (iI w)), (2, .int (iI a)), (3, .int (iI b))]) hx hb dX0_wordToTheRight_6 hl (by decide) rfl (fun ls hl => ?_)
  have loop8 : ∀ (n : Nat) (x y : Int) (j : Nat), (y = b + 1 + (j : Int)) → (y ≤ R) → (x = wRn N a j (b + 1) w) → (R - y < (n : Int)) → ∀ ls : Array Slot, lv_has ls 7 [(0, .ref fl), (1, .int (iI w)), (2, .int (iI a)), (3, .int (iI b)), (4, .int (iI x)), (5, .int (iI y))] → W p l e (lvl 3) s m [.ref fl, .int (iI w), .int (iI a), .int (iI b)].toArray below meth c s.heap [] 0 0 (MQ below (PQ (fun r => r = wRZ N R a b w)) [.ref fl, .int (iI w), .int (iI a), .int (iI b)].toArray s 0 0 (fun _ => False)) (F0 m 8 ls []) := by
    intro n
    induction n with
    | zero => intro x y j hy hyR hxw hms; exfalso; omega
    | succ n ih =>
      intro x y j hy hyR hxw hms ls hl
      have hN2 := hF.N2 (a * 7 + y)
      have hxb := wRn_b hF (c := a) hw0 hw1 j (b + 1)
      have hpb := pw7_le j (by omega)
      rw [← hxw] at hxb
      refine lv_iload hx hb dX0_wordToTheRight_8 (lv_at hl 5 rfl) ?_
      refine lv_aload_n hx hb dX0_wordToTheRight_10 rfl (lv_at hl 0 rfl) ?_
      refine va_get (D := D) (ci := 0) (v := .int (iI R)) (C := RX0) (T := TX0) (N := 4) hx hb hts uX0 hown hK.1 hP 0 rfl rfl 1 (by decide) (hts _ q_58) (fun _ h9 => h9) rfl dX0_wordToTheRight_11 ?_
      refine zv_icmp_ge hx hb dX0_wordToTheRight_14 (tgt := 52) (by decide) ⟨by omega, by omega⟩ ⟨by omega, by omega⟩ (fun c_1 => ?_) (fun c_1 => ?_)
      · refine lv_iload hx hb dX0_wordToTheRight_52 (lv_at hl 4 rfl) ?_
        exact PM_iret hx hb hr hlk dX0_wordToTheRight_54 (by rw [hxw]; unfold wRZ; rw [show (R - 1 - b).toNat = j by omega])
      · refine lv_aload_n hx hb dX0_wordToTheRight_17 rfl (lv_at hl 0 rfl) ?_
        refine lv_iload_n hx hb dX0_wordToTheRight_18 rfl (lv_at hl 2 rfl) ?_
        refine lv_iload hx hb dX0_wordToTheRight_19 (lv_at hl 5 rfl) ?_
        refine zc_SN (As := [.int (iI a), .int (iI y)]) (rest := [.ref fl]) (ws := [(fl, .inr (0, [.int (iI C), .int (iI R), .ref pn, .int (iI np)])), (pn, .inl (cI, 49, .inl (aI gn)))]) (n := 2) hx hb (hml.trans hl.1.symm) hts hown hK hP (c_X2_squareAt l D cI cJ a y) q_72 q_71 q_1 (by decide +kernel) (by decide +kernel) rfl ⟨Nat.le_of_ble_eq_true rfl, Nat.le_of_ble_eq_true rfl⟩ ⟨Nat.zero_le _, Nat.zero_le _⟩ [] rfl rfl (Nat.le_of_ble_eq_true rfl) dX0_wordToTheRight_21 (fun r_2 hr_2 => ?_)
        subst hr_2
        refine zc_V (As := [.int (iI (a * 7 + y))]) (rest := []) (ws := [(fl, .inr (0, [.int (iI C), .int (iI R), .ref pn, .int (iI np)])), (pn, .inl (cI, 49, .inl (aI gn)))]) (n := 1) hx hb (hml.trans hl.1.symm) hts hown hK hP (c_X0_pillarNumberOf l D cI cJ fl pn C R np gn N (a * 7 + y) hF (by omega) (by omega)) (gd_V q_126 q_128 q_1003 q_3 q_129) (by decide +kernel) rfl ⟨Nat.le_of_ble_eq_true rfl, Nat.le_of_ble_eq_true rfl⟩ ⟨Nat.zero_le _, Nat.zero_le _⟩ [0, 1] rfl 0 (ci := 0) rfl rfl rfl rfl (Nat.le_of_ble_eq_true rfl) dX0_wordToTheRight_24 (fun r_3 hr_3 => ?_)
        subst hr_3
        refine lv_istore (lv' := [(6, .int (iI (N (a * 7 + y)))), (0, .ref fl), (1, .int (iI w)), (2, .int (iI a)), (3, .int (iI b)), (4, .int (iI x)), (5, .int (iI y))]) hx hb dX0_wordToTheRight_27 hl (by decide) rfl (fun ls hl => ?_)
        refine lv_iload hx hb dX0_wordToTheRight_29 (lv_at hl 0 rfl) ?_
        refine zv_iconst hx hb dX0_wordToTheRight_31 ?_
        refine zv_icmp_eq hx hb dX0_wordToTheRight_32 (tgt := 46) (by decide) ⟨by omega, by omega⟩ ⟨by omega, by omega⟩ (fun c_4 => ?_) (fun c_4 => ?_)
        · refine zv_iinc (k := 6) (lv' := [(5, .int (iI (y + 1))), (6, .int (iI (N (a * 7 + y)))), (0, .ref fl), (1, .int (iI w)), (2, .int (iI a)), (3, .int (iI b)), (4, .int (iI x))]) hx hb dX0_wordToTheRight_46 hl rfl (by decide) rfl (fun ls hl => ?_)
          refine lv_goto (tgt := 8) hx hb dX0_wordToTheRight_49 (by decide) ?_
          exact ih x (y + 1) (j + 1) (by omega) (by omega) (by rw [show wRn N a (j + 1) (b + 1) w = stR N a (b + 1 + j) (wRn N a j (b + 1) w) from rfl, ← hxw, ← hy]; unfold stR; first | rw [if_pos (by assumption)] | rw [if_neg (by assumption)]) (by omega) ls (lv_sub hl [2, 3, 4, 5, 6, 0] rfl)
        · refine lv_iload hx hb dX0_wordToTheRight_35 (lv_at hl 5 rfl) ?_
          refine zv_iconst hx hb dX0_wordToTheRight_37 ?_
          refine lv_iload hx hb dX0_wordToTheRight_38 (lv_at hl 0 rfl) ?_
          refine zv_imul hx hb dX0_wordToTheRight_40 ?_
          refine zc_SN (As := [.int (iI x), .int (iI (2 * N (a * 7 + y)))]) (rest := []) (ws := [(fl, .inr (0, [.int (iI C), .int (iI R), .ref pn, .int (iI np)])), (pn, .inl (cI, 49, .inl (aI gn)))]) (n := 2) hx hb (hml.trans hl.1.symm) hts hown hK hP (c_X2_withLetter l D cI cJ x (2 * N (a * 7 + y)) (by omega) (by omega) (by omega) (by omega)) q_137 q_136 q_1 (by decide +kernel) (by decide +kernel) rfl ⟨Nat.le_of_ble_eq_true rfl, Nat.le_of_ble_eq_true rfl⟩ ⟨Nat.zero_le _, Nat.zero_le _⟩ [] rfl rfl (Nat.le_of_ble_eq_true rfl) dX0_wordToTheRight_41 (fun r_5 hr_5 => ?_)
          subst hr_5
          refine lv_istore (lv' := [(4, .int (iI (wjZ x (2 * N (a * 7 + y))))), (6, .int (iI (N (a * 7 + y)))), (0, .ref fl), (1, .int (iI w)), (2, .int (iI a)), (3, .int (iI b)), (5, .int (iI y))]) hx hb dX0_wordToTheRight_44 hl (by decide) rfl (fun ls hl => ?_)
          refine zv_iinc (k := 6) (lv' := [(5, .int (iI (y + 1))), (4, .int (iI (wjZ x (2 * N (a * 7 + y))))), (6, .int (iI (N (a * 7 + y)))), (0, .ref fl), (1, .int (iI w)), (2, .int (iI a)), (3, .int (iI b))]) hx hb dX0_wordToTheRight_46 hl rfl (by decide) rfl (fun ls hl => ?_)
          refine lv_goto (tgt := 8) hx hb dX0_wordToTheRight_49 (by decide) ?_
          exact ih (wjZ x (2 * N (a * 7 + y))) (y + 1) (j + 1) (by omega) (by omega) (by rw [show wRn N a (j + 1) (b + 1) w = stR N a (b + 1 + j) (wRn N a j (b + 1) w) from rfl, ← hxw, ← hy]; unfold stR; first | rw [if_pos (by assumption)] | rw [if_neg (by assumption)]) (by omega) ls (lv_sub hl [3, 4, 5, 6, 1, 0] rfl)
  exact loop8 8 w (b + 1) 0 (by omega) (by omega) rfl (by omega) ls (lv_sub hl [2, 3, 4, 5, 1, 0] rfl)
set_option maxRecDepth 100000 in
set_option maxHeartbeats 4000000 in
theorem c_X0_wordToTheLeft (l : Launch) (D : va_G) (cI cJ : ClassId) (fl pn : Nat) (C R np : Int) (gn : Nat → Int) (N : Int → Int) (w a b : Int) (hF : FlOK C R np N gn) (ha1 : -2 ≤ a) (ha2 : a ≤ 8) (hb1 : 0 ≤ b) (hb2 : b < R) (hw0 : 0 ≤ w) (hw1 : w < 343) : PM l yX0_wordToTheLeft (.code yX0_wordToTheLeft cX0_wordToTheLeft 7 (some .int)) 3 [.ref fl, .int (iI w), .int (iI a), .int (iI b)] D cI cJ [(fl, .inr (0, [.int (iI C), .int (iI R), .ref pn, .int (iI np)])), (pn, .inl (cI, 49, .inl (aI gn)))] (fun r => r = wLZ N R a b w) := by
  obtain ⟨hC1, hC2, hR1, hR2, hp1, hp2, -, -⟩ := id hF
  refine PM_of (by decide) rfl (Nat.le_of_ble_eq_true rfl) (fun p e s m below meth c ls hx hb hr hts hown hlk hml hK hP hl => ?_)
  have hl : lv_has ls 7 [(0, .ref fl), (1, .int (iI w)), (2, .int (iI a)), (3, .int (iI b))] := hl
  refine lv_iload_n hx hb dX0_wordToTheLeft_0 rfl (lv_at hl 1 rfl) ?_
  refine lv_istore (lv' := [(4, .int (iI w)), (0, .ref fl), (1, .int (iI w)), (2, .int (iI a)), (3, .int (iI b))]) hx hb dX0_wordToTheLeft_1 hl (by decide) rfl (fun ls hl => ?_)
  refine lv_aload_n hx hb dX0_wordToTheLeft_3 rfl (lv_at hl 1 rfl) ?_
  refine va_get (D := D) (ci := 0) (v := .int (iI R)) (C := RX0) (T := TX0) (N := 4) hx hb hts uX0 hown hK.1 hP 0 rfl rfl 1 (by decide) (hts _ q_58) (fun _ h9 => h9) rfl dX0_wordToTheLeft_4 ?_
  refine zv_iconst hx hb dX0_wordToTheLeft_7 ?_
  refine zv_isub hx hb dX0_wordToTheLeft_8 ?_
  refine lv_istore (lv' := [(5, .int (iI (R - 1))), (4, .int (iI w)), (0, .ref fl), (1, .int (iI w)), (2, .int (iI a)), (3, .int (iI b))]) hx hb dX0_wordToTheLeft_9 hl (by decide) rfl (fun ls hl => ?_)
  have loop11 : ∀ (n : Nat) (x y : Int) (i : Nat), (y = b + (i : Int)) → (y ≤ R - 1) → (wLn N a i (b + 1) x = wLZ N R a b w) → (0 ≤ x) → (x < pw7 (R - 1 - y).toNat) → (y - b < (n : Int)) → ∀ ls : Array Slot, lv_has ls 7 [(0, .ref fl), (1, .int (iI w)), (2, .int (iI a)), (3, .int (iI b)), (4, .int (iI x)), (5, .int (iI y))] → W p l e (lvl 3) s m [.ref fl, .int (iI w), .int (iI a), .int (iI b)].toArray below meth c s.heap [] 0 0 (MQ below (PQ (fun r => r = wLZ N R a b w)) [.ref fl, .int (iI w), .int (iI a), .int (iI b)].toArray s 0 0 (fun _ => False)) (F0 m 11 ls []) := by
    intro n
    induction n with
    | zero => intro x y i hy hyR hxw hx0 hx1 hms; exfalso; omega
    | succ n ih =>
      intro x y i hy hyR hxw hx0 hx1 hms ls hl
      have hN2 := hF.N2 (a * 7 + y)
      have hpb := pw7_le (R - 1 - y).toNat (by omega)
      refine lv_iload hx hb dX0_wordToTheLeft_11 (lv_at hl 5 rfl) ?_
      refine lv_iload_n hx hb dX0_wordToTheLeft_13 rfl (lv_at hl 3 rfl) ?_
      refine zv_icmp_le hx hb dX0_wordToTheLeft_14 (tgt := 55) (by decide) ⟨by omega, by omega⟩ ⟨by omega, by omega⟩ (fun c_1 => ?_) (fun c_1 => ?_)
      · refine lv_iload hx hb dX0_wordToTheLeft_55 (lv_at hl 4 rfl) ?_
        exact PM_iret hx hb hr hlk dX0_wordToTheLeft_57 (by rw [← hxw, show i = 0 by omega]; rfl)
      · refine lv_aload_n hx hb dX0_wordToTheLeft_17 rfl (lv_at hl 0 rfl) ?_
        refine lv_iload_n hx hb dX0_wordToTheLeft_18 rfl (lv_at hl 2 rfl) ?_
        refine lv_iload hx hb dX0_wordToTheLeft_19 (lv_at hl 5 rfl) ?_
        refine zc_SN (As := [.int (iI a), .int (iI y)]) (rest := [.ref fl]) (ws := [(fl, .inr (0, [.int (iI C), .int (iI R), .ref pn, .int (iI np)])), (pn, .inl (cI, 49, .inl (aI gn)))]) (n := 2) hx hb (hml.trans hl.1.symm) hts hown hK hP (c_X2_squareAt l D cI cJ a y) q_72 q_71 q_1 (by decide +kernel) (by decide +kernel) rfl ⟨Nat.le_of_ble_eq_true rfl, Nat.le_of_ble_eq_true rfl⟩ ⟨Nat.zero_le _, Nat.zero_le _⟩ [] rfl rfl (Nat.le_of_ble_eq_true rfl) dX0_wordToTheLeft_21 (fun r_2 hr_2 => ?_)
        subst hr_2
        refine zc_V (As := [.int (iI (a * 7 + y))]) (rest := []) (ws := [(fl, .inr (0, [.int (iI C), .int (iI R), .ref pn, .int (iI np)])), (pn, .inl (cI, 49, .inl (aI gn)))]) (n := 1) hx hb (hml.trans hl.1.symm) hts hown hK hP (c_X0_pillarNumberOf l D cI cJ fl pn C R np gn N (a * 7 + y) hF (by omega) (by omega)) (gd_V q_126 q_128 q_1003 q_3 q_129) (by decide +kernel) rfl ⟨Nat.le_of_ble_eq_true rfl, Nat.le_of_ble_eq_true rfl⟩ ⟨Nat.zero_le _, Nat.zero_le _⟩ [0, 1] rfl 0 (ci := 0) rfl rfl rfl rfl (Nat.le_of_ble_eq_true rfl) dX0_wordToTheLeft_24 (fun r_3 hr_3 => ?_)
        subst hr_3
        refine lv_istore (lv' := [(6, .int (iI (N (a * 7 + y)))), (0, .ref fl), (1, .int (iI w)), (2, .int (iI a)), (3, .int (iI b)), (4, .int (iI x)), (5, .int (iI y))]) hx hb dX0_wordToTheLeft_27 hl (by decide) rfl (fun ls hl => ?_)
        refine lv_iload hx hb dX0_wordToTheLeft_29 (lv_at hl 0 rfl) ?_
        refine zv_iconst hx hb dX0_wordToTheLeft_31 ?_
        refine zv_icmp_eq hx hb dX0_wordToTheLeft_32 (tgt := 49) (by decide) ⟨by omega, by omega⟩ ⟨by omega, by omega⟩ (fun c_4 => ?_) (fun c_4 => ?_)
        · refine zv_iinc (k := 6) (lv' := [(5, .int (iI (y + (-1)))), (6, .int (iI (N (a * 7 + y)))), (0, .ref fl), (1, .int (iI w)), (2, .int (iI a)), (3, .int (iI b)), (4, .int (iI x))]) hx hb dX0_wordToTheLeft_49 hl rfl (by decide) rfl (fun ls hl => ?_)
          refine lv_goto (tgt := 11) hx hb dX0_wordToTheLeft_52 (by decide) ?_
          obtain ⟨i, rfl⟩ : ∃ i0, i = i0 + 1 := ⟨i - 1, by omega⟩
          have hxs := stL_b hF (c := a) (r := y) hx0 hx1
          have hxe : wLn N a i (b + 1) (stL N a y x) = wLZ N R a b w := by rw [← hxw, show y = b + 1 + (i : Int) by omega]; rfl
          have hpe : (R - 1 - (y + (-1))).toNat = (R - 1 - y).toNat + 1 := by omega
          unfold stL at hxs hxe
          first | rw [if_pos (by assumption)] at hxs hxe | rw [if_neg (by assumption)] at hxs hxe
          exact ih x (y + (-1)) i (by omega) (by omega) hxe hxs.1 (by rw [hpe]; exact hxs.2) (by omega) ls (lv_sub hl [2, 3, 4, 5, 6, 0] rfl)
        · refine lv_iload hx hb dX0_wordToTheLeft_35 (lv_at hl 5 rfl) ?_
          refine zv_iconst hx hb dX0_wordToTheLeft_37 ?_
          refine lv_iload hx hb dX0_wordToTheLeft_38 (lv_at hl 0 rfl) ?_
          refine zv_imul hx hb dX0_wordToTheLeft_40 ?_
          refine zc_SN (As := [.int (iI (2 * N (a * 7 + y)))]) (rest := [.int (iI x)]) (ws := [(fl, .inr (0, [.int (iI C), .int (iI R), .ref pn, .int (iI np)])), (pn, .inl (cI, 49, .inl (aI gn)))]) (n := 1) hx hb (hml.trans hl.1.symm) hts hown hK hP (c_X2_oppositeOf l D cI cJ (2 * N (a * 7 + y)) (by omega) (by omega)) q_143 q_142 q_1 (by decide +kernel) (by decide +kernel) rfl ⟨Nat.le_of_ble_eq_true rfl, Nat.le_of_ble_eq_true rfl⟩ ⟨Nat.zero_le _, Nat.zero_le _⟩ [] rfl rfl (Nat.le_of_ble_eq_true rfl) dX0_wordToTheLeft_41 (fun r_5 hr_5 => ?_)
          subst hr_5
          have hop := oppZ_b (k := 2 * N (a * 7 + y)) (by omega) (by omega)
          refine zc_SN (As := [.int (iI x), .int (iI (oppZ (2 * N (a * 7 + y))))]) (rest := []) (ws := [(fl, .inr (0, [.int (iI C), .int (iI R), .ref pn, .int (iI np)])), (pn, .inl (cI, 49, .inl (aI gn)))]) (n := 2) hx hb (hml.trans hl.1.symm) hts hown hK hP (c_X2_withLetter l D cI cJ x (oppZ (2 * N (a * 7 + y))) (by omega) (by omega) (by omega) (by omega)) q_137 q_136 q_1 (by decide +kernel) (by decide +kernel) rfl ⟨Nat.le_of_ble_eq_true rfl, Nat.le_of_ble_eq_true rfl⟩ ⟨Nat.zero_le _, Nat.zero_le _⟩ [] rfl rfl (Nat.le_of_ble_eq_true rfl) dX0_wordToTheLeft_44 (fun r_6 hr_6 => ?_)
          subst hr_6
          refine lv_istore (lv' := [(4, .int (iI (wjZ x (oppZ (2 * N (a * 7 + y)))))), (6, .int (iI (N (a * 7 + y)))), (0, .ref fl), (1, .int (iI w)), (2, .int (iI a)), (3, .int (iI b)), (5, .int (iI y))]) hx hb dX0_wordToTheLeft_47 hl (by decide) rfl (fun ls hl => ?_)
          refine zv_iinc (k := 6) (lv' := [(5, .int (iI (y + (-1)))), (4, .int (iI (wjZ x (oppZ (2 * N (a * 7 + y)))))), (6, .int (iI (N (a * 7 + y)))), (0, .ref fl), (1, .int (iI w)), (2, .int (iI a)), (3, .int (iI b))]) hx hb dX0_wordToTheLeft_49 hl rfl (by decide) rfl (fun ls hl => ?_)
          refine lv_goto (tgt := 11) hx hb dX0_wordToTheLeft_52 (by decide) ?_
          obtain ⟨i, rfl⟩ : ∃ i0, i = i0 + 1 := ⟨i - 1, by omega⟩
          have hxs := stL_b hF (c := a) (r := y) hx0 hx1
          have hxe : wLn N a i (b + 1) (stL N a y x) = wLZ N R a b w := by rw [← hxw, show y = b + 1 + (i : Int) by omega]; rfl
          have hpe : (R - 1 - (y + (-1))).toNat = (R - 1 - y).toNat + 1 := by omega
          unfold stL at hxs hxe
          first | rw [if_pos (by assumption)] at hxs hxe | rw [if_neg (by assumption)] at hxs hxe
          exact ih (wjZ x (oppZ (2 * N (a * 7 + y)))) (y + (-1)) i (by omega) (by omega) hxe hxs.1 (by rw [hpe]; exact hxs.2) (by omega) ls (lv_sub hl [3, 4, 5, 6, 1, 0] rfl)
  exact loop11 8 w (R - 1) ((R - 1 - b).toNat) (by omega) (by omega) rfl (by omega) (by rw [show (R - 1 - (R - 1)).toNat = 0 by omega]; exact hw1) (by omega) ls (lv_sub hl [2, 3, 4, 5, 1, 0] rfl)
set_option maxRecDepth 100000 in
set_option maxHeartbeats 4000000 in
theorem c_X0_after (l : Launch) (D : va_G) (cI cJ : ClassId) (fl pn : Nat) (C R np : Int) (gn : Nat → Int) (N : Int → Int) (z d : Int) (hF : FlOK C R np N gn) (hz0 : 0 ≤ z) (hz1 : z < 16807) (hd0 : 0 ≤ d) (hd1 : d ≤ 3) (hpr : z / 343 % 7 < R) : PM l yX0_after (.code yX0_after cX0_after 5 (some .int)) 4 [.ref fl, .int (iI z), .int (iI d)] D cI cJ [(fl, .inr (0, [.int (iI C), .int (iI R), .ref pn, .int (iI np)])), (pn, .inl (cI, 49, .inl (aI gn)))] (fun r => r = aftZ C R N z d) := by
  obtain ⟨hC1, hC2, hR1, hR2, hp1, hp2, -, -⟩ := id hF
  refine PM_of (by decide) rfl (Nat.le_of_ble_eq_true rfl) (fun p e s m below meth c ls hx hb hr hts hown hlk hml hK hP hl => ?_)
  have hl : lv_has ls 5 [(0, .ref fl), (1, .int (iI z)), (2, .int (iI d))] := hl
  refine lv_iload_n hx hb dX0_after_0 rfl (lv_at hl 1 rfl) ?_
  refine zc_SN (As := [.int (iI z)]) (rest := []) (ws := [(fl, .inr (0, [.int (iI C), .int (iI R), .ref pn, .int (iI np)])), (pn, .inl (cI, 49, .inl (aI gn)))]) (n := 1) hx hb (hml.trans hl.1.symm) hts hown hK hP (c_X2_squareOf l D cI cJ z (by omega) (by omega)) q_103 q_102 q_1 (by decide +kernel) (by decide +kernel) rfl ⟨Nat.le_of_ble_eq_true rfl, Nat.le_of_ble_eq_true rfl⟩ ⟨Nat.zero_le _, Nat.zero_le _⟩ [] rfl rfl (Nat.le_of_ble_eq_true rfl) dX0_after_1 (fun r_1 hr_1 => ?_)
  subst hr_1
  refine zc_SN (As := [.int (iI (z / 343))]) (rest := []) (ws := [(fl, .inr (0, [.int (iI C), .int (iI R), .ref pn, .int (iI np)])), (pn, .inl (cI, 49, .inl (aI gn)))]) (n := 1) hx hb (hml.trans hl.1.symm) hts hown hK hP (c_X2_columnOf l D cI cJ (z / 343) (by omega) (by omega)) q_106 q_105 q_1 (by decide +kernel) (by decide +kernel) rfl ⟨Nat.le_of_ble_eq_true rfl, Nat.le_of_ble_eq_true rfl⟩ ⟨Nat.zero_le _, Nat.zero_le _⟩ [] rfl rfl (Nat.le_of_ble_eq_true rfl) dX0_after_4 (fun r_2 hr_2 => ?_)
  subst hr_2
  refine lv_istore_n (lv' := [(3, .int (iI ((z / 343) / 7))), (0, .ref fl), (1, .int (iI z)), (2, .int (iI d))]) hx hb dX0_after_7 rfl hl (by decide) rfl (fun ls hl => ?_)
  refine lv_iload_n hx hb dX0_after_8 rfl (lv_at hl 2 rfl) ?_
  refine zc_SN (As := [.int (iI z)]) (rest := []) (ws := [(fl, .inr (0, [.int (iI C), .int (iI R), .ref pn, .int (iI np)])), (pn, .inl (cI, 49, .inl (aI gn)))]) (n := 1) hx hb (hml.trans hl.1.symm) hts hown hK hP (c_X2_squareOf l D cI cJ z (by omega) (by omega)) q_103 q_102 q_1 (by decide +kernel) (by decide +kernel) rfl ⟨Nat.le_of_ble_eq_true rfl, Nat.le_of_ble_eq_true rfl⟩ ⟨Nat.zero_le _, Nat.zero_le _⟩ [] rfl rfl (Nat.le_of_ble_eq_true rfl) dX0_after_9 (fun r_3 hr_3 => ?_)
  subst hr_3
  refine zc_SN (As := [.int (iI (z / 343))]) (rest := []) (ws := [(fl, .inr (0, [.int (iI C), .int (iI R), .ref pn, .int (iI np)])), (pn, .inl (cI, 49, .inl (aI gn)))]) (n := 1) hx hb (hml.trans hl.1.symm) hts hown hK hP (c_X2_rowOf l D cI cJ (z / 343) (by omega) (by omega)) q_109 q_108 q_1 (by decide +kernel) (by decide +kernel) rfl ⟨Nat.le_of_ble_eq_true rfl, Nat.le_of_ble_eq_true rfl⟩ ⟨Nat.zero_le _, Nat.zero_le _⟩ [] rfl rfl (Nat.le_of_ble_eq_true rfl) dX0_after_12 (fun r_4 hr_4 => ?_)
  subst hr_4
  refine lv_istore (lv' := [(4, .int (iI ((z / 343) % 7))), (3, .int (iI ((z / 343) / 7))), (0, .ref fl), (1, .int (iI z)), (2, .int (iI d))]) hx hb dX0_after_15 hl (by decide) rfl (fun ls hl => ?_)
  refine lv_iload_n hx hb dX0_after_17 rfl (lv_at hl 4 rfl) ?_
  rcases (show d = 0 ∨ d = 1 ∨ d = 2 ∨ d = 3 by omega) with rfl | rfl | rfl | rfl
  · skip
    refine zv_tableIn (tgt := 48) hx hb dX0_after_18 ⟨by decide, by decide⟩ (by decide) (by decide) rfl (by decide) ?_
    refine lv_aload_n hx hb dX0_after_48 rfl (lv_at hl 2 rfl) ?_
    refine lv_iload_n hx hb dX0_after_49 rfl (lv_at hl 1 rfl) ?_
    refine lv_iload hx hb dX0_after_50 (lv_at hl 0 rfl) ?_
    refine zv_iconst hx hb dX0_after_52 ?_
    refine zv_isub hx hb dX0_after_53 ?_
    refine lv_iload_n hx hb dX0_after_54 rfl (lv_at hl 3 rfl) ?_
    refine zc_SN (As := [.int (iI z)]) (rest := [.int (iI ((z / 343) % 7 - 1)), .int (iI ((z / 343) / 7)), .ref fl]) (ws := [(fl, .inr (0, [.int (iI C), .int (iI R), .ref pn, .int (iI np)])), (pn, .inl (cI, 49, .inl (aI gn)))]) (n := 1) hx hb (hml.trans hl.1.symm) hts hown hK hP (c_X2_wordOf l D cI cJ z (by omega) (by omega)) q_112 q_111 q_1 (by decide +kernel) (by decide +kernel) rfl ⟨Nat.le_of_ble_eq_true rfl, Nat.le_of_ble_eq_true rfl⟩ ⟨Nat.zero_le _, Nat.zero_le _⟩ [] rfl rfl (Nat.le_of_ble_eq_true rfl) dX0_after_55 (fun r_5 hr_5 => ?_)
    subst hr_5
    refine zc_V (As := [.int (iI ((z / 343) / 7)), .int (iI ((z / 343) % 7 - 1)), .int (iI (z % 343))]) (rest := []) (ws := [(fl, .inr (0, [.int (iI C), .int (iI R), .ref pn, .int (iI np)])), (pn, .inl (cI, 49, .inl (aI gn)))]) (n := 3) hx hb (hml.trans hl.1.symm) hts hown hK hP (c_X0_placeAt l D cI cJ fl pn C R np gn N ((z / 343) / 7) ((z / 343) % 7 - 1) (z % 343) hF (by omega) (by omega) (by omega) (by omega) (by omega) (by omega)) (gd_V q_113 q_115 q_1002 q_3 q_116) (by decide +kernel) rfl ⟨Nat.le_of_ble_eq_true rfl, Nat.le_of_ble_eq_true rfl⟩ ⟨Nat.zero_le _, Nat.zero_le _⟩ [0, 1] rfl 0 (ci := 0) rfl rfl rfl rfl (Nat.le_of_ble_eq_true rfl) dX0_after_58 (fun r_6 hr_6 => ?_)
    subst hr_6
    exact PM_iret hx hb hr hlk dX0_after_61 (by first | rw [aftZ_0] | rw [aftZ_1] | rw [aftZ_2] | rw [aftZ_3])
  · skip
    refine zv_tableIn (tgt := 62) hx hb dX0_after_18 ⟨by decide, by decide⟩ (by decide) (by decide) rfl (by decide) ?_
    refine lv_aload_n hx hb dX0_after_62 rfl (lv_at hl 2 rfl) ?_
    refine lv_iload_n hx hb dX0_after_63 rfl (lv_at hl 1 rfl) ?_
    refine zv_iconst hx hb dX0_after_64 ?_
    refine zv_iadd hx hb dX0_after_65 ?_
    refine lv_iload hx hb dX0_after_66 (lv_at hl 0 rfl) ?_
    refine lv_aload_n hx hb dX0_after_68 rfl (lv_at hl 2 rfl) ?_
    refine lv_iload_n hx hb dX0_after_69 rfl (lv_at hl 3 rfl) ?_
    refine zc_SN (As := [.int (iI z)]) (rest := [.ref fl, .int (iI ((z / 343) % 7)), .int (iI ((z / 343) / 7 + 1)), .ref fl]) (ws := [(fl, .inr (0, [.int (iI C), .int (iI R), .ref pn, .int (iI np)])), (pn, .inl (cI, 49, .inl (aI gn)))]) (n := 1) hx hb (hml.trans hl.1.symm) hts hown hK hP (c_X2_wordOf l D cI cJ z (by omega) (by omega)) q_112 q_111 q_1 (by decide +kernel) (by decide +kernel) rfl ⟨Nat.le_of_ble_eq_true rfl, Nat.le_of_ble_eq_true rfl⟩ ⟨Nat.zero_le _, Nat.zero_le _⟩ [] rfl rfl (Nat.le_of_ble_eq_true rfl) dX0_after_70 (fun r_7 hr_7 => ?_)
    subst hr_7
    refine lv_iload_n hx hb dX0_after_73 rfl (lv_at hl 1 rfl) ?_
    refine lv_iload hx hb dX0_after_74 (lv_at hl 0 rfl) ?_
    refine zc_V (As := [.int (iI (z % 343)), .int (iI ((z / 343) / 7)), .int (iI ((z / 343) % 7))]) (rest := [.int (iI ((z / 343) % 7)), .int (iI ((z / 343) / 7 + 1)), .ref fl]) (ws := [(fl, .inr (0, [.int (iI C), .int (iI R), .ref pn, .int (iI np)])), (pn, .inl (cI, 49, .inl (aI gn)))]) (n := 3) hx hb (hml.trans hl.1.symm) hts hown hK hP (c_X0_wordToTheRight l D cI cJ fl pn C R np gn N (z % 343) ((z / 343) / 7) ((z / 343) % 7) hF (by omega) (by omega) (by omega) (by omega) (by omega) (by omega)) (gd_V q_131 q_133 q_1004 q_3 q_134) (by decide +kernel) rfl ⟨Nat.le_of_ble_eq_true rfl, Nat.le_of_ble_eq_true rfl⟩ ⟨Nat.zero_le _, Nat.zero_le _⟩ [0, 1] rfl 0 (ci := 0) rfl rfl rfl rfl (Nat.le_of_ble_eq_true rfl) dX0_after_76 (fun r_8 hr_8 => ?_)
    subst hr_8
    have hwb := wRZ_b hF (c := z / 343 / 7) (r := z / 343 % 7) (w := z % 343) (by omega) (by omega) (by omega)
    refine zc_V (As := [.int (iI ((z / 343) / 7 + 1)), .int (iI ((z / 343) % 7)), .int (iI (wRZ N R ((z / 343) / 7) ((z / 343) % 7) (z % 343)))]) (rest := []) (ws := [(fl, .inr (0, [.int (iI C), .int (iI R), .ref pn, .int (iI np)])), (pn, .inl (cI, 49, .inl (aI gn)))]) (n := 3) hx hb (hml.trans hl.1.symm) hts hown hK hP (c_X0_placeAt l D cI cJ fl pn C R np gn N ((z / 343) / 7 + 1) ((z / 343) % 7) (wRZ N R ((z / 343) / 7) ((z / 343) % 7) (z % 343)) hF (by omega) (by omega) (by omega) (by omega) (by omega) (by omega)) (gd_V q_113 q_115 q_1002 q_3 q_116) (by decide +kernel) rfl ⟨Nat.le_of_ble_eq_true rfl, Nat.le_of_ble_eq_true rfl⟩ ⟨Nat.zero_le _, Nat.zero_le _⟩ [0, 1] rfl 0 (ci := 0) rfl rfl rfl rfl (Nat.le_of_ble_eq_true rfl) dX0_after_79 (fun r_9 hr_9 => ?_)
    subst hr_9
    exact PM_iret hx hb hr hlk dX0_after_82 (by first | rw [aftZ_0] | rw [aftZ_1] | rw [aftZ_2] | rw [aftZ_3])
  · skip
    refine zv_tableIn (tgt := 83) hx hb dX0_after_18 ⟨by decide, by decide⟩ (by decide) (by decide) rfl (by decide) ?_
    refine lv_aload_n hx hb dX0_after_83 rfl (lv_at hl 2 rfl) ?_
    refine lv_iload_n hx hb dX0_after_84 rfl (lv_at hl 1 rfl) ?_
    refine lv_iload hx hb dX0_after_85 (lv_at hl 0 rfl) ?_
    refine zv_iconst hx hb dX0_after_87 ?_
    refine zv_iadd hx hb dX0_after_88 ?_
    refine lv_iload_n hx hb dX0_after_89 rfl (lv_at hl 3 rfl) ?_
    refine zc_SN (As := [.int (iI z)]) (rest := [.int (iI ((z / 343) % 7 + 1)), .int (iI ((z / 343) / 7)), .ref fl]) (ws := [(fl, .inr (0, [.int (iI C), .int (iI R), .ref pn, .int (iI np)])), (pn, .inl (cI, 49, .inl (aI gn)))]) (n := 1) hx hb (hml.trans hl.1.symm) hts hown hK hP (c_X2_wordOf l D cI cJ z (by omega) (by omega)) q_112 q_111 q_1 (by decide +kernel) (by decide +kernel) rfl ⟨Nat.le_of_ble_eq_true rfl, Nat.le_of_ble_eq_true rfl⟩ ⟨Nat.zero_le _, Nat.zero_le _⟩ [] rfl rfl (Nat.le_of_ble_eq_true rfl) dX0_after_90 (fun r_10 hr_10 => ?_)
    subst hr_10
    refine zc_V (As := [.int (iI ((z / 343) / 7)), .int (iI ((z / 343) % 7 + 1)), .int (iI (z % 343))]) (rest := []) (ws := [(fl, .inr (0, [.int (iI C), .int (iI R), .ref pn, .int (iI np)])), (pn, .inl (cI, 49, .inl (aI gn)))]) (n := 3) hx hb (hml.trans hl.1.symm) hts hown hK hP (c_X0_placeAt l D cI cJ fl pn C R np gn N ((z / 343) / 7) ((z / 343) % 7 + 1) (z % 343) hF (by omega) (by omega) (by omega) (by omega) (by omega) (by omega)) (gd_V q_113 q_115 q_1002 q_3 q_116) (by decide +kernel) rfl ⟨Nat.le_of_ble_eq_true rfl, Nat.le_of_ble_eq_true rfl⟩ ⟨Nat.zero_le _, Nat.zero_le _⟩ [0, 1] rfl 0 (ci := 0) rfl rfl rfl rfl (Nat.le_of_ble_eq_true rfl) dX0_after_93 (fun r_11 hr_11 => ?_)
    subst hr_11
    exact PM_iret hx hb hr hlk dX0_after_96 (by first | rw [aftZ_0] | rw [aftZ_1] | rw [aftZ_2] | rw [aftZ_3])
  · skip
    refine zv_tableIn (tgt := 97) hx hb dX0_after_18 ⟨by decide, by decide⟩ (by decide) (by decide) rfl (by decide) ?_
    refine lv_aload_n hx hb dX0_after_97 rfl (lv_at hl 2 rfl) ?_
    refine lv_iload_n hx hb dX0_after_98 rfl (lv_at hl 1 rfl) ?_
    refine zv_iconst hx hb dX0_after_99 ?_
    refine zv_isub hx hb dX0_after_100 ?_
    refine lv_iload hx hb dX0_after_101 (lv_at hl 0 rfl) ?_
    refine lv_aload_n hx hb dX0_after_103 rfl (lv_at hl 2 rfl) ?_
    refine lv_iload_n hx hb dX0_after_104 rfl (lv_at hl 3 rfl) ?_
    refine zc_SN (As := [.int (iI z)]) (rest := [.ref fl, .int (iI ((z / 343) % 7)), .int (iI ((z / 343) / 7 - 1)), .ref fl]) (ws := [(fl, .inr (0, [.int (iI C), .int (iI R), .ref pn, .int (iI np)])), (pn, .inl (cI, 49, .inl (aI gn)))]) (n := 1) hx hb (hml.trans hl.1.symm) hts hown hK hP (c_X2_wordOf l D cI cJ z (by omega) (by omega)) q_112 q_111 q_1 (by decide +kernel) (by decide +kernel) rfl ⟨Nat.le_of_ble_eq_true rfl, Nat.le_of_ble_eq_true rfl⟩ ⟨Nat.zero_le _, Nat.zero_le _⟩ [] rfl rfl (Nat.le_of_ble_eq_true rfl) dX0_after_105 (fun r_12 hr_12 => ?_)
    subst hr_12
    refine lv_iload_n hx hb dX0_after_108 rfl (lv_at hl 1 rfl) ?_
    refine zv_iconst hx hb dX0_after_109 ?_
    refine zv_isub hx hb dX0_after_110 ?_
    refine lv_iload hx hb dX0_after_111 (lv_at hl 0 rfl) ?_
    refine zc_V (As := [.int (iI (z % 343)), .int (iI ((z / 343) / 7 - 1)), .int (iI ((z / 343) % 7))]) (rest := [.int (iI ((z / 343) % 7)), .int (iI ((z / 343) / 7 - 1)), .ref fl]) (ws := [(fl, .inr (0, [.int (iI C), .int (iI R), .ref pn, .int (iI np)])), (pn, .inl (cI, 49, .inl (aI gn)))]) (n := 3) hx hb (hml.trans hl.1.symm) hts hown hK hP (c_X0_wordToTheLeft l D cI cJ fl pn C R np gn N (z % 343) ((z / 343) / 7 - 1) ((z / 343) % 7) hF (by omega) (by omega) (by omega) (by omega) (by omega) (by omega)) (gd_V q_144 q_146 q_1005 q_3 q_147) (by decide +kernel) rfl ⟨Nat.le_of_ble_eq_true rfl, Nat.le_of_ble_eq_true rfl⟩ ⟨Nat.zero_le _, Nat.zero_le _⟩ [0, 1] rfl 0 (ci := 0) rfl rfl rfl rfl (Nat.le_of_ble_eq_true rfl) dX0_after_113 (fun r_13 hr_13 => ?_)
    subst hr_13
    have hwb := wLZ_b hF (c := z / 343 / 7 - 1) (r := z / 343 % 7) (w := z % 343) (by omega) (by omega) (by omega)
    refine zc_V (As := [.int (iI ((z / 343) / 7 - 1)), .int (iI ((z / 343) % 7)), .int (iI (wLZ N R ((z / 343) / 7 - 1) ((z / 343) % 7) (z % 343)))]) (rest := []) (ws := [(fl, .inr (0, [.int (iI C), .int (iI R), .ref pn, .int (iI np)])), (pn, .inl (cI, 49, .inl (aI gn)))]) (n := 3) hx hb (hml.trans hl.1.symm) hts hown hK hP (c_X0_placeAt l D cI cJ fl pn C R np gn N ((z / 343) / 7 - 1) ((z / 343) % 7) (wLZ N R ((z / 343) / 7 - 1) ((z / 343) % 7) (z % 343)) hF (by omega) (by omega) (by omega) (by omega) (by omega) (by omega)) (gd_V q_113 q_115 q_1002 q_3 q_116) (by decide +kernel) rfl ⟨Nat.le_of_ble_eq_true rfl, Nat.le_of_ble_eq_true rfl⟩ ⟨Nat.zero_le _, Nat.zero_le _⟩ [0, 1] rfl 0 (ci := 0) rfl rfl rfl rfl (Nat.le_of_ble_eq_true rfl) dX0_after_116 (fun r_14 hr_14 => ?_)
    subst hr_14
    exact PM_iret hx hb hr hlk dX0_after_119 (by first | rw [aftZ_0] | rw [aftZ_1] | rw [aftZ_2] | rw [aftZ_3])
end
section
/-- lengths: an array's contents as a function of places, -1 where there is none -/
def LenOK (L : Int → Int) (g : Nat → Int) : Prop := (∀ k : Nat, k < 16807 → g k = L (k : Int)) ∧ (∀ z : Int, -1 ≤ L z ∧ L z < 20000) ∧ ∀ z : Int, z < 0 ∨ 16807 ≤ z → L z = -1
theorem LenOK.g {L : Int → Int} {g : Nat → Int} (h : LenOK L g) {z : Int} (h0 : 0 ≤ z) (h1 : z < 16807) : g z.toNat = L z := by
  rw [h.1 z.toNat (by omega), Int.toNat_of_nonneg h0]
theorem LenOK.b {L : Int → Int} {g : Nat → Int} (h : LenOK L g) (z : Int) : -1 ≤ L z ∧ L z < 20000 := h.2.1 z
theorem LenOK.o {L : Int → Int} {g : Nat → Int} (h : LenOK L g) (z : Int) (hz : z < 0 ∨ 16807 ≤ z) : L z = -1 := h.2.2 z hz
/-- a place's number on the floor -/
def PlOK (R z : Int) : Prop := 0 ≤ z ∧ z < 16807 ∧ z / 343 % 7 < R
theorem plZ_b {C R : Int} {N : Int → Int} {a b w : Int} (hC : C ≤ 7) (hR : R ≤ 7) (hw : 0 ≤ w) : plZ C R N a b w = -1 ∨ PlOK R (plZ C R N a b w) := by
  unfold plZ PlOK
  split
  · right; omega
  · left; rfl
theorem aftZ_ok {C R np : Int} {N : Int → Int} {gn : Nat → Int} (hF : FlOK C R np N gn) {z d : Int} (hz : PlOK R z) : aftZ C R N z d = -1 ∨ PlOK R (aftZ C R N z d) := by
  obtain ⟨z1, z2, z3⟩ := hz
  have hwR := wRZ_b hF (c := z / 343 / 7) (r := z / 343 % 7) (w := z % 343) (by omega) (by omega) (by omega)
  have hwL := wLZ_b hF (c := z / 343 / 7 - 1) (r := z / 343 % 7) (w := z % 343) (by omega) (by omega) (by omega)
  obtain ⟨h1, h2, h3, h4, -⟩ := hF
  unfold aftZ
  split
  · exact plZ_b h2 h4 (by omega)
  · split
    · exact plZ_b h2 h4 hwR.1
    · split
      · exact plZ_b h2 h4 (by omega)
      · exact plZ_b h2 h4 hwL.1
theorem aftZ_b {C R np : Int} {N : Int → Int} {gn : Nat → Int} (hF : FlOK C R np N gn) {z d : Int} (h0 : 0 ≤ z) (h1 : z < 16807) (h2 : z / 343 % 7 < R) : -1 ≤ aftZ C R N z d ∧ aftZ C R N z d < 16807 := by
  rcases aftZ_ok hF (d := d) ⟨h0, h1, h2⟩ with h | ⟨h, h', -⟩ <;> omega
/-- a step of the crawler -/
def astZ (C R : Int) (N L : Int → Int) (lim z d : Int) : Int := if L (aftZ C R N z d) ≠ -1 ∧ L (aftZ C R N z d) ≤ lim then aftZ C R N z d else -1
/-- the direction in which the cable goes on; -1 at its end -/
def cdZ (C R : Int) (N L : Int → Int) (z : Int) : Int := if L z < 1 then -1 else if L (aftZ C R N z 0) = L z - 1 then 0 else if L (aftZ C R N z 1) = L z - 1 then 1 else if L (aftZ C R N z 2) = L z - 1 then 2 else if L (aftZ C R N z 3) = L z - 1 then 3 else -1
/-- the place behind n steps along the cable -/
def alZ (C R : Int) (N L : Int → Int) (z : Int) : Nat → Int
  | 0 => z
  | n + 1 => aftZ C R N (alZ C R N L z n) (cdZ C R N L (alZ C R N L z n))
/-- the bends among the first n + 1 steps of the cable -/
def bdN (C R : Int) (N L : Int → Int) (z : Int) : Nat → Int
  | 0 => 0
  | n + 1 => bdN C R N L z n + if cdZ C R N L (alZ C R N L z (n + 1)) = cdZ C R N L (alZ C R N L z n) then 0 else 1
/-- the least length among the first n words of a square -/
def lsN (L : Int → Int) (q : Int) : Nat → Int
  | 0 => -1
  | n + 1 => if L (q * 343 + n) ≠ -1 ∧ (lsN L q n = -1 ∨ L (q * 343 + n) < lsN L q n) then L (q * 343 + n) else lsN L q n
def lsZ (L : Int → Int) (q : Int) : Int := lsN L q 343
/-- how many of the first n words of a square are within the limit -/
def wdN (L : Int → Int) (lim q : Int) : Nat → Int
  | 0 => 0
  | n + 1 => wdN L lim q n + if L (q * 343 + n) ≠ -1 ∧ L (q * 343 + n) ≤ lim then 1 else 0
/-- how many of the first n squares are within the limit -/
def sqN (L : Int → Int) (lim : Int) : Nat → Int
  | 0 => 0
  | n + 1 => sqN L lim n + if lsZ L n ≠ -1 ∧ lsZ L n ≤ lim then 1 else 0
theorem lsN_b {L : Int → Int} {g : Nat → Int} (h : LenOK L g) (q : Int) : ∀ n : Nat, -1 ≤ lsN L q n ∧ lsN L q n < 20000 := by
  intro n
  induction n with
  | zero => unfold lsN; omega
  | succ n ih =>
    have := h.b (q * 343 + n)
    unfold lsN
    split <;> assumption
theorem lsZ_b {L : Int → Int} {g : Nat → Int} (h : LenOK L g) (q : Int) : -1 ≤ lsZ L q ∧ lsZ L q < 20000 := lsN_b h q 343
/-- the cable's first k steps can be gone -/
def AlOK (C R : Int) (N L : Int → Int) (z : Int) (k : Int) : Prop := ∀ j : Nat, (j : Int) < k → PlOK R (alZ C R N L z j) ∧ 0 ≤ cdZ C R N L (alZ C R N L z j) ∧ cdZ C R N L (alZ C R N L z j) ≤ 3
theorem cdZ_b (C R : Int) (N L : Int → Int) (z : Int) : -1 ≤ cdZ C R N L z ∧ cdZ C R N L z ≤ 3 := by
  unfold cdZ
  (repeat' split) <;> omega
end
section
set_option maxRecDepth 100000 in
set_option maxHeartbeats 4000000 in
theorem c_X1_distanceOf (l : Launch) (D : va_G) (cI cJ : ClassId) (sp da ra : Nat) (ct : Int) (g : Nat → Int) (L : Int → Int) (z : Int) (hL : LenOK L g) (hz1 : -2147483648 ≤ z) (hz2 : z < 2147483648) : PM l yX1_distanceOf (.code yX1_distanceOf cX1_distanceOf 2 (some .int)) 0 [.ref sp, .int (iI z)] D cI cJ [(sp, .inr (1, [.ref da, .ref ra, .int (iI ct)])), (da, .inl (cI, 16807, .inl (aI g)))] (fun r => r = L z) := by
  refine PM_of (by decide) rfl (Nat.le_of_ble_eq_true rfl) (fun p e s m below meth c ls hx hb hr hts hown hlk hml hK hP hl => ?_)
  have hl : lv_has ls 2 [(0, .ref sp), (1, .int (iI z))] := hl
  refine lv_iload_n hx hb dX1_distanceOf_0 rfl (lv_at hl 1 rfl) ?_
  refine zv_if_lt hx hb dX1_distanceOf_1 (tgt := 22) (by decide) ⟨by omega, by omega⟩ (fun c_1 => ?_) (fun c_1 => ?_)
  · refine zv_iconst hx hb dX1_distanceOf_22 ?_
    exact PM_iret hx hb hr hlk dX1_distanceOf_23 (by first | rfl | exact (hL.o z (by omega)).symm)
  · refine lv_iload_n hx hb dX1_distanceOf_4 rfl (lv_at hl 1 rfl) ?_
    refine lv_aload_n hx hb dX1_distanceOf_5 rfl (lv_at hl 0 rfl) ?_
    refine va_get (D := D) (ci := 1) (v := .ref da) (C := RX1) (T := TX1) (N := 3) hx hb hts uX1 hown hK.1 hP 0 rfl rfl 0 (by decide) (hts _ q_28) (fun _ h9 => h9) rfl dX1_distanceOf_6 ?_
    refine zv_alen hx hb hK.1 hP 1 0 rfl rfl dX1_distanceOf_9 ?_
    refine zv_icmp_ge hx hb dX1_distanceOf_10 (tgt := 22) (by decide) ⟨by omega, by omega⟩ ⟨by omega, by omega⟩ (fun c_2 => ?_) (fun c_2 => ?_)
    · refine zv_iconst hx hb dX1_distanceOf_22 ?_
      exact PM_iret hx hb hr hlk dX1_distanceOf_23 (by first | rfl | exact (hL.o z (by omega)).symm)
    · refine lv_aload_n hx hb dX1_distanceOf_13 rfl (lv_at hl 0 rfl) ?_
      refine va_get (D := D) (ci := 1) (v := .ref da) (C := RX1) (T := TX1) (N := 3) hx hb hts uX1 hown hK.1 hP 0 rfl rfl 0 (by decide) (hts _ q_28) (fun _ h9 => h9) rfl dX1_distanceOf_14 ?_
      refine lv_iload_n hx hb dX1_distanceOf_17 rfl (lv_at hl 1 rfl) ?_
      refine zv_iald hx hb hK.1 hP 1 0 rfl rfl (by omega) (by omega) (by omega) dX1_distanceOf_18 ?_
      refine zv_top (y := L z) (hL.g (by omega) (by omega)) ?_
      refine lv_goto (tgt := 23) hx hb dX1_distanceOf_19 (by decide) ?_
      exact PM_iret hx hb hr hlk dX1_distanceOf_23 (by first | rfl | exact (hL.o z (by omega)).symm)
set_option maxRecDepth 100000 in
set_option maxHeartbeats 4000000 in
theorem c_X1_count (l : Launch) (D : va_G) (cI cJ : ClassId) (sp da ra : Nat) (ct : Int) : PM l yX1_count (.code yX1_count cX1_count 1 (some .int)) 0 [.ref sp] D cI cJ [(sp, .inr (1, [.ref da, .ref ra, .int (iI ct)]))] (fun r => r = ct) := by
  refine PM_of (by decide) rfl (Nat.le_of_ble_eq_true rfl) (fun p e s m below meth c ls hx hb hr hts hown hlk hml hK hP hl => ?_)
  have hl : lv_has ls 1 [(0, .ref sp)] := hl
  refine lv_aload_n hx hb dX1_count_0 rfl (lv_at hl 0 rfl) ?_
  refine va_get (D := D) (ci := 1) (v := .int (iI ct)) (C := RX1) (T := TX1) (N := 3) hx hb hts uX1 hown hK.1 hP 0 rfl rfl 2 (by decide) (hts _ q_30) (fun _ h9 => h9) rfl dX1_count_1 ?_
  exact PM_iret hx hb hr hlk dX1_count_4 (by first | rfl | omega)
set_option maxRecDepth 100000 in
set_option maxHeartbeats 4000000 in
theorem c_X1_placeAt (l : Launch) (D : va_G) (cI cJ : ClassId) (sp da ra : Nat) (ct : Int) (h : Nat → Int) (i : Int) (hc1 : 0 ≤ ct) (hc2 : ct ≤ 9163) (hi0 : 0 ≤ i) (hi1 : i < ct) : PM l yX1_placeAt (.code yX1_placeAt cX1_placeAt 2 (some .int)) 0 [.ref sp, .int (iI i)] D cI cJ [(sp, .inr (1, [.ref da, .ref ra, .int (iI ct)])), (ra, .inl (cI, 9163, .inl (aI h)))] (fun r => r = (h i.toNat)) := by
  refine PM_of (by decide) rfl (Nat.le_of_ble_eq_true rfl) (fun p e s m below meth c ls hx hb hr hts hown hlk hml hK hP hl => ?_)
  have hl : lv_has ls 2 [(0, .ref sp), (1, .int (iI i))] := hl
  refine lv_iload_n hx hb dX1_placeAt_0 rfl (lv_at hl 1 rfl) ?_
  refine zv_if_lt hx hb dX1_placeAt_1 (tgt := 30) (by decide) ⟨by omega, by omega⟩ (fun c_1 => by exfalso; omega) (fun c_1 => ?_)
  refine lv_iload_n hx hb dX1_placeAt_4 rfl (lv_at hl 1 rfl) ?_
  refine lv_aload_n hx hb dX1_placeAt_5 rfl (lv_at hl 0 rfl) ?_
  refine va_get (D := D) (ci := 1) (v := .int (iI ct)) (C := RX1) (T := TX1) (N := 3) hx hb hts uX1 hown hK.1 hP 0 rfl rfl 2 (by decide) (hts _ q_30) (fun _ h9 => h9) rfl dX1_placeAt_6 ?_
  refine zv_icmp_ge hx hb dX1_placeAt_9 (tgt := 30) (by decide) ⟨by omega, by omega⟩ ⟨by omega, by omega⟩ (fun c_2 => by exfalso; omega) (fun c_2 => ?_)
  refine lv_iload_n hx hb dX1_placeAt_12 rfl (lv_at hl 1 rfl) ?_
  refine lv_aload_n hx hb dX1_placeAt_13 rfl (lv_at hl 0 rfl) ?_
  refine va_get (D := D) (ci := 1) (v := .ref ra) (C := RX1) (T := TX1) (N := 3) hx hb hts uX1 hown hK.1 hP 0 rfl rfl 1 (by decide) (hts _ q_29) (fun _ h9 => h9) rfl dX1_placeAt_14 ?_
  refine zv_alen hx hb hK.1 hP 1 0 rfl rfl dX1_placeAt_17 ?_
  refine zv_icmp_ge hx hb dX1_placeAt_18 (tgt := 30) (by decide) ⟨by omega, by omega⟩ ⟨by omega, by omega⟩ (fun c_3 => by exfalso; omega) (fun c_3 => ?_)
  refine lv_aload_n hx hb dX1_placeAt_21 rfl (lv_at hl 0 rfl) ?_
  refine va_get (D := D) (ci := 1) (v := .ref ra) (C := RX1) (T := TX1) (N := 3) hx hb hts uX1 hown hK.1 hP 0 rfl rfl 1 (by decide) (hts _ q_29) (fun _ h9 => h9) rfl dX1_placeAt_22 ?_
  refine lv_iload_n hx hb dX1_placeAt_25 rfl (lv_at hl 1 rfl) ?_
  refine zv_iald hx hb hK.1 hP 1 0 rfl rfl (by omega) (by omega) (by omega) dX1_placeAt_26 ?_
  refine lv_goto (tgt := 31) hx hb dX1_placeAt_27 (by decide) ?_
  exact PM_iret hx hb hr hlk dX1_placeAt_31 (by first | rfl | omega)
set_option maxRecDepth 100000 in
set_option maxHeartbeats 4000000 in
theorem c_X2_isWithinLimit (l : Launch) (D : va_G) (cI cJ : ClassId) (tt fl s1 s2 pn d1 r1 : Nat) (lim bs P sm C R np c1 : Int) (gn g1 : Nat → Int) (N L : Int → Int) (x : Int) (hF : FlOK C R np N gn) (hL : LenOK L g1) (hlm : 1 ≤ lim ∧ lim ≤ 60) (hx1 : -2147483648 ≤ x) (hx2 : x < 2147483648) : PM l yX2_isWithinLimit (.code yX2_isWithinLimit cX2_isWithinLimit 2 (some .boolean)) 0 [.ref tt, .int (iI x)] D cI cJ [(tt, .inr (2, [.ref fl, .int (iI lim), .ref s1, .ref s2, .int (iI bs), .int (iI P), .int (iI sm)])), (fl, .inr (0, [.int (iI C), .int (iI R), .ref pn, .int (iI np)])), (pn, .inl (cI, 49, .inl (aI gn))), (s1, .inr (1, [.ref d1, .ref r1, .int (iI c1)])), (d1, .inl (cI, 16807, .inl (aI g1)))] (fun r => (r = 1 ∧ (x ≠ -1 ∧ x ≤ lim)) ∨ (r = 0 ∧ ¬ (x ≠ -1 ∧ x ≤ lim))) := by
  obtain ⟨hC1, hC2, hR1, hR2, hp1, hp2, -, -⟩ := id hF
  refine PM_of (by decide) rfl (Nat.le_of_ble_eq_true rfl) (fun p e s m below meth c ls hx hb hr hts hown hlk hml hK hP hl => ?_)
  have hl : lv_has ls 2 [(0, .ref tt), (1, .int (iI x))] := hl
  refine lv_iload_n hx hb dX2_isWithinLimit_0 rfl (lv_at hl 1 rfl) ?_
  refine zv_iconst hx hb dX2_isWithinLimit_1 ?_
  refine zv_icmp_eq hx hb dX2_isWithinLimit_2 (tgt := 17) (by decide) ⟨by omega, by omega⟩ ⟨by omega, by omega⟩ (fun c_1 => ?_) (fun c_1 => ?_)
  · refine zv_iconst hx hb dX2_isWithinLimit_17 ?_
    exact PM_zret hx hb hr hlk dX2_isWithinLimit_18 (by first | rfl | decide) (by omega)
  · refine lv_iload_n hx hb dX2_isWithinLimit_5 rfl (lv_at hl 1 rfl) ?_
    refine lv_aload_n hx hb dX2_isWithinLimit_6 rfl (lv_at hl 0 rfl) ?_
    refine va_get (D := D) (ci := 2) (v := .int (iI lim)) (C := RX2) (T := TX2) (N := 7) hx hb hts uX2 hown hK.1 hP 0 rfl rfl 1 (by decide) (hts _ q_158) (fun _ h9 => h9) rfl dX2_isWithinLimit_7 ?_
    refine zv_icmp_gt hx hb dX2_isWithinLimit_10 (tgt := 17) (by decide) ⟨by omega, by omega⟩ ⟨by omega, by omega⟩ (fun c_2 => ?_) (fun c_2 => ?_)
    · refine zv_iconst hx hb dX2_isWithinLimit_17 ?_
      exact PM_zret hx hb hr hlk dX2_isWithinLimit_18 (by first | rfl | decide) (by omega)
    · refine zv_iconst hx hb dX2_isWithinLimit_13 ?_
      refine lv_goto (tgt := 18) hx hb dX2_isWithinLimit_14 (by decide) ?_
      exact PM_zret hx hb hr hlk dX2_isWithinLimit_18 (by first | rfl | decide) (by omega)
set_option maxRecDepth 100000 in
set_option maxHeartbeats 4000000 in
theorem c_X2_afterStep (l : Launch) (D : va_G) (cI cJ : ClassId) (tt fl s1 s2 pn d1 r1 : Nat) (lim bs P sm C R np c1 : Int) (gn g1 : Nat → Int) (N L : Int → Int) (z d : Int) (hF : FlOK C R np N gn) (hL : LenOK L g1) (hlm : 1 ≤ lim ∧ lim ≤ 60) (hz0 : 0 ≤ z) (hz1 : z < 16807) (hd0 : 0 ≤ d) (hd1 : d ≤ 3) (hpr : z / 343 % 7 < R) : PM l yX2_afterStep (.code yX2_afterStep cX2_afterStep 4 (some .int)) 5 [.ref tt, .int (iI z), .int (iI d)] D cI cJ [(tt, .inr (2, [.ref fl, .int (iI lim), .ref s1, .ref s2, .int (iI bs), .int (iI P), .int (iI sm)])), (fl, .inr (0, [.int (iI C), .int (iI R), .ref pn, .int (iI np)])), (pn, .inl (cI, 49, .inl (aI gn))), (s1, .inr (1, [.ref d1, .ref r1, .int (iI c1)])), (d1, .inl (cI, 16807, .inl (aI g1)))] (fun r => r = astZ C R N L lim z d) := by
  obtain ⟨hC1, hC2, hR1, hR2, hp1, hp2, -, -⟩ := id hF
  refine PM_of (by decide) rfl (Nat.le_of_ble_eq_true rfl) (fun p e s m below meth c ls hx hb hr hts hown hlk hml hK hP hl => ?_)
  have hl : lv_has ls 4 [(0, .ref tt), (1, .int (iI z)), (2, .int (iI d))] := hl
  refine lv_aload_n hx hb dX2_afterStep_0 rfl (lv_at hl 0 rfl) ?_
  refine va_get (D := D) (ci := 2) (v := .ref fl) (C := RX2) (T := TX2) (N := 7) hx hb hts uX2 hown hK.1 hP 0 rfl rfl 0 (by decide) (hts _ q_157) (fun _ h9 => h9) rfl dX2_afterStep_1 ?_
  refine lv_iload_n hx hb dX2_afterStep_4 rfl (lv_at hl 1 rfl) ?_
  refine lv_iload_n hx hb dX2_afterStep_5 rfl (lv_at hl 2 rfl) ?_
  refine zc_V (As := [.int (iI z), .int (iI d)]) (rest := []) (ws := [(tt, .inr (2, [.ref fl, .int (iI lim), .ref s1, .ref s2, .int (iI bs), .int (iI P), .int (iI sm)])), (fl, .inr (0, [.int (iI C), .int (iI R), .ref pn, .int (iI np)])), (pn, .inl (cI, 49, .inl (aI gn))), (s1, .inr (1, [.ref d1, .ref r1, .int (iI c1)])), (d1, .inl (cI, 16807, .inl (aI g1)))]) (n := 2) hx hb (hml.trans hl.1.symm) hts hown hK hP (c_X0_after l D cI cJ fl pn C R np gn N z d hF (by omega) (by omega) (by omega) (by omega) (by omega)) (gd_V q_97 q_98 q_99 q_3 q_100) (by decide +kernel) rfl ⟨Nat.le_of_ble_eq_true rfl, Nat.le_of_ble_eq_true rfl⟩ ⟨Nat.zero_le _, Nat.zero_le _⟩ [1, 2] rfl 1 (ci := 0) rfl rfl rfl rfl (Nat.le_of_ble_eq_true rfl) dX2_afterStep_6 (fun r_1 hr_1 => ?_)
  subst hr_1
  refine lv_istore_n (lv' := [(3, .int (iI (aftZ C R N z d))), (0, .ref tt), (1, .int (iI z)), (2, .int (iI d))]) hx hb dX2_afterStep_9 rfl hl (by decide) rfl (fun ls hl => ?_)
  refine lv_aload_n hx hb dX2_afterStep_10 rfl (lv_at hl 1 rfl) ?_
  refine lv_aload_n hx hb dX2_afterStep_11 rfl (lv_at hl 1 rfl) ?_
  refine va_get (D := D) (ci := 2) (v := .ref s1) (C := RX2) (T := TX2) (N := 7) hx hb hts uX2 hown hK.1 hP 0 rfl rfl 2 (by decide) (hts _ q_159) (fun _ h9 => h9) rfl dX2_afterStep_12 ?_
  have hab := aftZ_b hF (z := z) (d := d) (by omega) (by omega) (by omega)
  have hLb := hL.b (aftZ C R N z d)
  refine lv_iload_n hx hb dX2_afterStep_15 rfl (lv_at hl 0 rfl) ?_
  refine zc_V (As := [.int (iI (aftZ C R N z d))]) (rest := [.ref tt]) (ws := [(tt, .inr (2, [.ref fl, .int (iI lim), .ref s1, .ref s2, .int (iI bs), .int (iI P), .int (iI sm)])), (fl, .inr (0, [.int (iI C), .int (iI R), .ref pn, .int (iI np)])), (pn, .inl (cI, 49, .inl (aI gn))), (s1, .inr (1, [.ref d1, .ref r1, .int (iI c1)])), (d1, .inl (cI, 16807, .inl (aI g1)))]) (n := 1) hx hb (hml.trans hl.1.symm) hts hown hK hP (c_X1_distanceOf l D cI cJ s1 d1 r1 c1 g1 L (aftZ C R N z d) hL (by omega) (by omega)) (gd_V q_202 q_154 q_155 q_2 q_156) (by decide +kernel) rfl ⟨Nat.le_of_ble_eq_true rfl, Nat.le_of_ble_eq_true rfl⟩ ⟨Nat.zero_le _, Nat.zero_le _⟩ [3, 4] rfl 3 (ci := 1) rfl rfl rfl rfl (Nat.le_of_ble_eq_true rfl) dX2_afterStep_16 (fun r_2 hr_2 => ?_)
  subst hr_2
  refine zc_V (As := [.int (iI (L (aftZ C R N z d)))]) (rest := []) (ws := [(tt, .inr (2, [.ref fl, .int (iI lim), .ref s1, .ref s2, .int (iI bs), .int (iI P), .int (iI sm)])), (fl, .inr (0, [.int (iI C), .int (iI R), .ref pn, .int (iI np)])), (pn, .inl (cI, 49, .inl (aI gn))), (s1, .inr (1, [.ref d1, .ref r1, .int (iI c1)])), (d1, .inl (cI, 16807, .inl (aI g1)))]) (n := 1) hx hb (hml.trans hl.1.symm) hts hown hK hP (c_X2_isWithinLimit l D cI cJ tt fl s1 s2 pn d1 r1 lim bs P sm C R np c1 gn g1 N L (L (aftZ C R N z d)) hF hL hlm (by omega) (by omega)) (gd_V q_228 q_230 q_1008 q_1 q_231) (by decide +kernel) rfl ⟨Nat.le_of_ble_eq_true rfl, Nat.le_of_ble_eq_true rfl⟩ ⟨Nat.zero_le _, Nat.zero_le _⟩ [0, 1, 2, 3, 4] rfl 0 (ci := 2) rfl rfl rfl rfl (Nat.le_of_ble_eq_true rfl) dX2_afterStep_19 (fun r_3 hr_3 => ?_)
  refine zv_if_eq hx hb dX2_afterStep_22 (tgt := 29) (by decide) ⟨by omega, by omega⟩ (fun c_4 => ?_) (fun c_4 => ?_)
  · refine zv_iconst hx hb dX2_afterStep_29 ?_
    exact PM_iret hx hb hr hlk dX2_afterStep_30 (by unfold astZ; first | rw [if_pos (by omega)] | rw [if_neg (by omega)])
  · refine lv_iload_n hx hb dX2_afterStep_25 rfl (lv_at hl 0 rfl) ?_
    refine lv_goto (tgt := 30) hx hb dX2_afterStep_26 (by decide) ?_
    exact PM_iret hx hb hr hlk dX2_afterStep_30 (by unfold astZ; first | rw [if_pos (by omega)] | rw [if_neg (by omega)])
set_option maxRecDepth 100000 in
set_option maxHeartbeats 4000000 in
theorem c_X2_cableDirection (l : Launch) (D : va_G) (cI cJ : ClassId) (tt fl s1 s2 pn d1 r1 : Nat) (lim bs P sm C R np c1 : Int) (gn g1 : Nat → Int) (N L : Int → Int) (z : Int) (hF : FlOK C R np N gn) (hL : LenOK L g1) (hlm : 1 ≤ lim ∧ lim ≤ 60) (hz0 : 0 ≤ z) (hz1 : z < 16807) (hpr : z / 343 % 7 < R) : PM l yX2_cableDirection (.code yX2_cableDirection cX2_cableDirection 4 (some .int)) 5 [.ref tt, .int (iI z)] D cI cJ [(tt, .inr (2, [.ref fl, .int (iI lim), .ref s1, .ref s2, .int (iI bs), .int (iI P), .int (iI sm)])), (fl, .inr (0, [.int (iI C), .int (iI R), .ref pn, .int (iI np)])), (pn, .inl (cI, 49, .inl (aI gn))), (s1, .inr (1, [.ref d1, .ref r1, .int (iI c1)])), (d1, .inl (cI, 16807, .inl (aI g1)))] (fun r => r = cdZ C R N L z) := by
  obtain ⟨hC1, hC2, hR1, hR2, hp1, hp2, -, -⟩ := id hF
  have hLz := hL.b z
  have hab0 := aftZ_b hF (z := z) (d := 0) (by omega) (by omega) (by omega)
  have hLb0 := hL.b (aftZ C R N z 0)
  have hab1 := aftZ_b hF (z := z) (d := 1) (by omega) (by omega) (by omega)
  have hLb1 := hL.b (aftZ C R N z 1)
  have hab2 := aftZ_b hF (z := z) (d := 2) (by omega) (by omega) (by omega)
  have hLb2 := hL.b (aftZ C R N z 2)
  have hab3 := aftZ_b hF (z := z) (d := 3) (by omega) (by omega) (by omega)
  have hLb3 := hL.b (aftZ C R N z 3)
  refine PM_of (by decide) rfl (Nat.le_of_ble_eq_true rfl) (fun p e s m below meth c ls hx hb hr hts hown hlk hml hK hP hl => ?_)
  have hl : lv_has ls 4 [(0, .ref tt), (1, .int (iI z))] := hl
  refine lv_aload_n hx hb dX2_cableDirection_0 rfl (lv_at hl 0 rfl) ?_
  refine va_get (D := D) (ci := 2) (v := .ref s1) (C := RX2) (T := TX2) (N := 7) hx hb hts uX2 hown hK.1 hP 0 rfl rfl 2 (by decide) (hts _ q_159) (fun _ h9 => h9) rfl dX2_cableDirection_1 ?_
  refine lv_iload_n hx hb dX2_cableDirection_4 rfl (lv_at hl 1 rfl) ?_
  refine zc_V (As := [.int (iI z)]) (rest := []) (ws := [(tt, .inr (2, [.ref fl, .int (iI lim), .ref s1, .ref s2, .int (iI bs), .int (iI P), .int (iI sm)])), (fl, .inr (0, [.int (iI C), .int (iI R), .ref pn, .int (iI np)])), (pn, .inl (cI, 49, .inl (aI gn))), (s1, .inr (1, [.ref d1, .ref r1, .int (iI c1)])), (d1, .inl (cI, 16807, .inl (aI g1)))]) (n := 1) hx hb (hml.trans hl.1.symm) hts hown hK hP (c_X1_distanceOf l D cI cJ s1 d1 r1 c1 g1 L z hL (by omega) (by omega)) (gd_V q_202 q_154 q_155 q_2 q_156) (by decide +kernel) rfl ⟨Nat.le_of_ble_eq_true rfl, Nat.le_of_ble_eq_true rfl⟩ ⟨Nat.zero_le _, Nat.zero_le _⟩ [3, 4] rfl 3 (ci := 1) rfl rfl rfl rfl (Nat.le_of_ble_eq_true rfl) dX2_cableDirection_5 (fun r_1 hr_1 => ?_)
  subst hr_1
  refine lv_istore_n (lv' := [(2, .int (iI (L z))), (0, .ref tt), (1, .int (iI z))]) hx hb dX2_cableDirection_8 rfl hl (by decide) rfl (fun ls hl => ?_)
  refine lv_iload_n hx hb dX2_cableDirection_9 rfl (lv_at hl 0 rfl) ?_
  refine zv_iconst hx hb dX2_cableDirection_10 ?_
  refine zv_icmp_ge hx hb dX2_cableDirection_11 (tgt := 16) (by decide) ⟨by omega, by omega⟩ ⟨by omega, by omega⟩ (fun c_2 => ?_) (fun c_2 => ?_)
  · refine zv_iconst hx hb dX2_cableDirection_16 ?_
    refine lv_istore_n (lv' := [(3, .int (iI 0)), (2, .int (iI (L z))), (0, .ref tt), (1, .int (iI z))]) hx hb dX2_cableDirection_17 rfl hl (by decide) rfl (fun ls hl => ?_)
    refine lv_iload_n hx hb dX2_cableDirection_18 rfl (lv_at hl 0 rfl) ?_
    refine zv_iconst hx hb dX2_cableDirection_19 ?_
    refine zv_icmp_ge hx hb dX2_cableDirection_20 (tgt := 53) (by decide) ⟨by omega, by omega⟩ ⟨by omega, by omega⟩ (fun c_3 => by exfalso; omega) (fun c_3 => ?_)
    refine lv_aload_n hx hb dX2_cableDirection_23 rfl (lv_at hl 2 rfl) ?_
    refine va_get (D := D) (ci := 2) (v := .ref s1) (C := RX2) (T := TX2) (N := 7) hx hb hts uX2 hown hK.1 hP 0 rfl rfl 2 (by decide) (hts _ q_159) (fun _ h9 => h9) rfl dX2_cableDirection_24 ?_
    refine lv_aload_n hx hb dX2_cableDirection_27 rfl (lv_at hl 2 rfl) ?_
    refine va_get (D := D) (ci := 2) (v := .ref fl) (C := RX2) (T := TX2) (N := 7) hx hb hts uX2 hown hK.1 hP 0 rfl rfl 0 (by decide) (hts _ q_157) (fun _ h9 => h9) rfl dX2_cableDirection_28 ?_
    refine lv_iload_n hx hb dX2_cableDirection_31 rfl (lv_at hl 3 rfl) ?_
    refine lv_iload_n hx hb dX2_cableDirection_32 rfl (lv_at hl 0 rfl) ?_
    refine zc_V (As := [.int (iI z), .int (iI 0)]) (rest := [.ref s1]) (ws := [(tt, .inr (2, [.ref fl, .int (iI lim), .ref s1, .ref s2, .int (iI bs), .int (iI P), .int (iI sm)])), (fl, .inr (0, [.int (iI C), .int (iI R), .ref pn, .int (iI np)])), (pn, .inl (cI, 49, .inl (aI gn))), (s1, .inr (1, [.ref d1, .ref r1, .int (iI c1)])), (d1, .inl (cI, 16807, .inl (aI g1)))]) (n := 2) hx hb (hml.trans hl.1.symm) hts hown hK hP (c_X0_after l D cI cJ fl pn C R np gn N z 0 hF (by omega) (by omega) (by omega) (by omega) (by omega)) (gd_V q_97 q_98 q_99 q_3 q_100) (by decide +kernel) rfl ⟨Nat.le_of_ble_eq_true rfl, Nat.le_of_ble_eq_true rfl⟩ ⟨Nat.zero_le _, Nat.zero_le _⟩ [1, 2] rfl 1 (ci := 0) rfl rfl rfl rfl (Nat.le_of_ble_eq_true rfl) dX2_cableDirection_33 (fun r_4 hr_4 => ?_)
    subst hr_4
    refine zc_V (As := [.int (iI (aftZ C R N z 0))]) (rest := []) (ws := [(tt, .inr (2, [.ref fl, .int (iI lim), .ref s1, .ref s2, .int (iI bs), .int (iI P), .int (iI sm)])), (fl, .inr (0, [.int (iI C), .int (iI R), .ref pn, .int (iI np)])), (pn, .inl (cI, 49, .inl (aI gn))), (s1, .inr (1, [.ref d1, .ref r1, .int (iI c1)])), (d1, .inl (cI, 16807, .inl (aI g1)))]) (n := 1) hx hb (hml.trans hl.1.symm) hts hown hK hP (c_X1_distanceOf l D cI cJ s1 d1 r1 c1 g1 L (aftZ C R N z 0) hL (by omega) (by omega)) (gd_V q_202 q_154 q_155 q_2 q_156) (by decide +kernel) rfl ⟨Nat.le_of_ble_eq_true rfl, Nat.le_of_ble_eq_true rfl⟩ ⟨Nat.zero_le _, Nat.zero_le _⟩ [3, 4] rfl 3 (ci := 1) rfl rfl rfl rfl (Nat.le_of_ble_eq_true rfl) dX2_cableDirection_36 (fun r_5 hr_5 => ?_)
    subst hr_5
    refine lv_iload_n hx hb dX2_cableDirection_39 rfl (lv_at hl 1 rfl) ?_
    refine zv_iconst hx hb dX2_cableDirection_40 ?_
    refine zv_isub hx hb dX2_cableDirection_41 ?_
    refine zv_icmp_ne hx hb dX2_cableDirection_42 (tgt := 47) (by decide) ⟨by omega, by omega⟩ ⟨by omega, by omega⟩ (fun c_6 => ?_) (fun c_6 => ?_)
    · refine zv_iinc (k := 0) (lv' := [(3, .int (iI 1)), (2, .int (iI (L z))), (0, .ref tt), (1, .int (iI z))]) hx hb dX2_cableDirection_47 hl rfl (by decide) rfl (fun ls hl => ?_)
      refine lv_goto (tgt := 18) hx hb dX2_cableDirection_50 (by decide) ?_
      refine lv_iload_n hx hb dX2_cableDirection_18 rfl (lv_at hl 0 rfl) ?_
      refine zv_iconst hx hb dX2_cableDirection_19 ?_
      refine zv_icmp_ge hx hb dX2_cableDirection_20 (tgt := 53) (by decide) ⟨by omega, by omega⟩ ⟨by omega, by omega⟩ (fun c_7 => by exfalso; omega) (fun c_7 => ?_)
      refine lv_aload_n hx hb dX2_cableDirection_23 rfl (lv_at hl 2 rfl) ?_
      refine va_get (D := D) (ci := 2) (v := .ref s1) (C := RX2) (T := TX2) (N := 7) hx hb hts uX2 hown hK.1 hP 0 rfl rfl 2 (by decide) (hts _ q_159) (fun _ h9 => h9) rfl dX2_cableDirection_24 ?_
      refine lv_aload_n hx hb dX2_cableDirection_27 rfl (lv_at hl 2 rfl) ?_
      refine va_get (D := D) (ci := 2) (v := .ref fl) (C := RX2) (T := TX2) (N := 7) hx hb hts uX2 hown hK.1 hP 0 rfl rfl 0 (by decide) (hts _ q_157) (fun _ h9 => h9) rfl dX2_cableDirection_28 ?_
      refine lv_iload_n hx hb dX2_cableDirection_31 rfl (lv_at hl 3 rfl) ?_
      refine lv_iload_n hx hb dX2_cableDirection_32 rfl (lv_at hl 0 rfl) ?_
      refine zc_V (As := [.int (iI z), .int (iI 1)]) (rest := [.ref s1]) (ws := [(tt, .inr (2, [.ref fl, .int (iI lim), .ref s1, .ref s2, .int (iI bs), .int (iI P), .int (iI sm)])), (fl, .inr (0, [.int (iI C), .int (iI R), .ref pn, .int (iI np)])), (pn, .inl (cI, 49, .inl (aI gn))), (s1, .inr (1, [.ref d1, .ref r1, .int (iI c1)])), (d1, .inl (cI, 16807, .inl (aI g1)))]) (n := 2) hx hb (hml.trans hl.1.symm) hts hown hK hP (c_X0_after l D cI cJ fl pn C R np gn N z 1 hF (by omega) (by omega) (by omega) (by omega) (by omega)) (gd_V q_97 q_98 q_99 q_3 q_100) (by decide +kernel) rfl ⟨Nat.le_of_ble_eq_true rfl, Nat.le_of_ble_eq_true rfl⟩ ⟨Nat.zero_le _, Nat.zero_le _⟩ [1, 2] rfl 1 (ci := 0) rfl rfl rfl rfl (Nat.le_of_ble_eq_true rfl) dX2_cableDirection_33 (fun r_8 hr_8 => ?_)
      subst hr_8
      refine zc_V (As := [.int (iI (aftZ C R N z 1))]) (rest := []) (ws := [(tt, .inr (2, [.ref fl, .int (iI lim), .ref s1, .ref s2, .int (iI bs), .int (iI P), .int (iI sm)])), (fl, .inr (0, [.int (iI C), .int (iI R), .ref pn, .int (iI np)])), (pn, .inl (cI, 49, .inl (aI gn))), (s1, .inr (1, [.ref d1, .ref r1, .int (iI c1)])), (d1, .inl (cI, 16807, .inl (aI g1)))]) (n := 1) hx hb (hml.trans hl.1.symm) hts hown hK hP (c_X1_distanceOf l D cI cJ s1 d1 r1 c1 g1 L (aftZ C R N z 1) hL (by omega) (by omega)) (gd_V q_202 q_154 q_155 q_2 q_156) (by decide +kernel) rfl ⟨Nat.le_of_ble_eq_true rfl, Nat.le_of_ble_eq_true rfl⟩ ⟨Nat.zero_le _, Nat.zero_le _⟩ [3, 4] rfl 3 (ci := 1) rfl rfl rfl rfl (Nat.le_of_ble_eq_true rfl) dX2_cableDirection_36 (fun r_9 hr_9 => ?_)
      subst hr_9
      refine lv_iload_n hx hb dX2_cableDirection_39 rfl (lv_at hl 1 rfl) ?_
      refine zv_iconst hx hb dX2_cableDirection_40 ?_
      refine zv_isub hx hb dX2_cableDirection_41 ?_
      refine zv_icmp_ne hx hb dX2_cableDirection_42 (tgt := 47) (by decide) ⟨by omega, by omega⟩ ⟨by omega, by omega⟩ (fun c_10 => ?_) (fun c_10 => ?_)
      · refine zv_iinc (k := 0) (lv' := [(3, .int (iI 2)), (2, .int (iI (L z))), (0, .ref tt), (1, .int (iI z))]) hx hb dX2_cableDirection_47 hl rfl (by decide) rfl (fun ls hl => ?_)
        refine lv_goto (tgt := 18) hx hb dX2_cableDirection_50 (by decide) ?_
        refine lv_iload_n hx hb dX2_cableDirection_18 rfl (lv_at hl 0 rfl) ?_
        refine zv_iconst hx hb dX2_cableDirection_19 ?_
        refine zv_icmp_ge hx hb dX2_cableDirection_20 (tgt := 53) (by decide) ⟨by omega, by omega⟩ ⟨by omega, by omega⟩ (fun c_11 => by exfalso; omega) (fun c_11 => ?_)
        refine lv_aload_n hx hb dX2_cableDirection_23 rfl (lv_at hl 2 rfl) ?_
        refine va_get (D := D) (ci := 2) (v := .ref s1) (C := RX2) (T := TX2) (N := 7) hx hb hts uX2 hown hK.1 hP 0 rfl rfl 2 (by decide) (hts _ q_159) (fun _ h9 => h9) rfl dX2_cableDirection_24 ?_
        refine lv_aload_n hx hb dX2_cableDirection_27 rfl (lv_at hl 2 rfl) ?_
        refine va_get (D := D) (ci := 2) (v := .ref fl) (C := RX2) (T := TX2) (N := 7) hx hb hts uX2 hown hK.1 hP 0 rfl rfl 0 (by decide) (hts _ q_157) (fun _ h9 => h9) rfl dX2_cableDirection_28 ?_
        refine lv_iload_n hx hb dX2_cableDirection_31 rfl (lv_at hl 3 rfl) ?_
        refine lv_iload_n hx hb dX2_cableDirection_32 rfl (lv_at hl 0 rfl) ?_
        refine zc_V (As := [.int (iI z), .int (iI 2)]) (rest := [.ref s1]) (ws := [(tt, .inr (2, [.ref fl, .int (iI lim), .ref s1, .ref s2, .int (iI bs), .int (iI P), .int (iI sm)])), (fl, .inr (0, [.int (iI C), .int (iI R), .ref pn, .int (iI np)])), (pn, .inl (cI, 49, .inl (aI gn))), (s1, .inr (1, [.ref d1, .ref r1, .int (iI c1)])), (d1, .inl (cI, 16807, .inl (aI g1)))]) (n := 2) hx hb (hml.trans hl.1.symm) hts hown hK hP (c_X0_after l D cI cJ fl pn C R np gn N z 2 hF (by omega) (by omega) (by omega) (by omega) (by omega)) (gd_V q_97 q_98 q_99 q_3 q_100) (by decide +kernel) rfl ⟨Nat.le_of_ble_eq_true rfl, Nat.le_of_ble_eq_true rfl⟩ ⟨Nat.zero_le _, Nat.zero_le _⟩ [1, 2] rfl 1 (ci := 0) rfl rfl rfl rfl (Nat.le_of_ble_eq_true rfl) dX2_cableDirection_33 (fun r_12 hr_12 => ?_)
        subst hr_12
        refine zc_V (As := [.int (iI (aftZ C R N z 2))]) (rest := []) (ws := [(tt, .inr (2, [.ref fl, .int (iI lim), .ref s1, .ref s2, .int (iI bs), .int (iI P), .int (iI sm)])), (fl, .inr (0, [.int (iI C), .int (iI R), .ref pn, .int (iI np)])), (pn, .inl (cI, 49, .inl (aI gn))), (s1, .inr (1, [.ref d1, .ref r1, .int (iI c1)])), (d1, .inl (cI, 16807, .inl (aI g1)))]) (n := 1) hx hb (hml.trans hl.1.symm) hts hown hK hP (c_X1_distanceOf l D cI cJ s1 d1 r1 c1 g1 L (aftZ C R N z 2) hL (by omega) (by omega)) (gd_V q_202 q_154 q_155 q_2 q_156) (by decide +kernel) rfl ⟨Nat.le_of_ble_eq_true rfl, Nat.le_of_ble_eq_true rfl⟩ ⟨Nat.zero_le _, Nat.zero_le _⟩ [3, 4] rfl 3 (ci := 1) rfl rfl rfl rfl (Nat.le_of_ble_eq_true rfl) dX2_cableDirection_36 (fun r_13 hr_13 => ?_)
        subst hr_13
        refine lv_iload_n hx hb dX2_cableDirection_39 rfl (lv_at hl 1 rfl) ?_
        refine zv_iconst hx hb dX2_cableDirection_40 ?_
        refine zv_isub hx hb dX2_cableDirection_41 ?_
        refine zv_icmp_ne hx hb dX2_cableDirection_42 (tgt := 47) (by decide) ⟨by omega, by omega⟩ ⟨by omega, by omega⟩ (fun c_14 => ?_) (fun c_14 => ?_)
        · refine zv_iinc (k := 0) (lv' := [(3, .int (iI 3)), (2, .int (iI (L z))), (0, .ref tt), (1, .int (iI z))]) hx hb dX2_cableDirection_47 hl rfl (by decide) rfl (fun ls hl => ?_)
          refine lv_goto (tgt := 18) hx hb dX2_cableDirection_50 (by decide) ?_
          refine lv_iload_n hx hb dX2_cableDirection_18 rfl (lv_at hl 0 rfl) ?_
          refine zv_iconst hx hb dX2_cableDirection_19 ?_
          refine zv_icmp_ge hx hb dX2_cableDirection_20 (tgt := 53) (by decide) ⟨by omega, by omega⟩ ⟨by omega, by omega⟩ (fun c_15 => by exfalso; omega) (fun c_15 => ?_)
          refine lv_aload_n hx hb dX2_cableDirection_23 rfl (lv_at hl 2 rfl) ?_
          refine va_get (D := D) (ci := 2) (v := .ref s1) (C := RX2) (T := TX2) (N := 7) hx hb hts uX2 hown hK.1 hP 0 rfl rfl 2 (by decide) (hts _ q_159) (fun _ h9 => h9) rfl dX2_cableDirection_24 ?_
          refine lv_aload_n hx hb dX2_cableDirection_27 rfl (lv_at hl 2 rfl) ?_
          refine va_get (D := D) (ci := 2) (v := .ref fl) (C := RX2) (T := TX2) (N := 7) hx hb hts uX2 hown hK.1 hP 0 rfl rfl 0 (by decide) (hts _ q_157) (fun _ h9 => h9) rfl dX2_cableDirection_28 ?_
          refine lv_iload_n hx hb dX2_cableDirection_31 rfl (lv_at hl 3 rfl) ?_
          refine lv_iload_n hx hb dX2_cableDirection_32 rfl (lv_at hl 0 rfl) ?_
          refine zc_V (As := [.int (iI z), .int (iI 3)]) (rest := [.ref s1]) (ws := [(tt, .inr (2, [.ref fl, .int (iI lim), .ref s1, .ref s2, .int (iI bs), .int (iI P), .int (iI sm)])), (fl, .inr (0, [.int (iI C), .int (iI R), .ref pn, .int (iI np)])), (pn, .inl (cI, 49, .inl (aI gn))), (s1, .inr (1, [.ref d1, .ref r1, .int (iI c1)])), (d1, .inl (cI, 16807, .inl (aI g1)))]) (n := 2) hx hb (hml.trans hl.1.symm) hts hown hK hP (c_X0_after l D cI cJ fl pn C R np gn N z 3 hF (by omega) (by omega) (by omega) (by omega) (by omega)) (gd_V q_97 q_98 q_99 q_3 q_100) (by decide +kernel) rfl ⟨Nat.le_of_ble_eq_true rfl, Nat.le_of_ble_eq_true rfl⟩ ⟨Nat.zero_le _, Nat.zero_le _⟩ [1, 2] rfl 1 (ci := 0) rfl rfl rfl rfl (Nat.le_of_ble_eq_true rfl) dX2_cableDirection_33 (fun r_16 hr_16 => ?_)
          subst hr_16
          refine zc_V (As := [.int (iI (aftZ C R N z 3))]) (rest := []) (ws := [(tt, .inr (2, [.ref fl, .int (iI lim), .ref s1, .ref s2, .int (iI bs), .int (iI P), .int (iI sm)])), (fl, .inr (0, [.int (iI C), .int (iI R), .ref pn, .int (iI np)])), (pn, .inl (cI, 49, .inl (aI gn))), (s1, .inr (1, [.ref d1, .ref r1, .int (iI c1)])), (d1, .inl (cI, 16807, .inl (aI g1)))]) (n := 1) hx hb (hml.trans hl.1.symm) hts hown hK hP (c_X1_distanceOf l D cI cJ s1 d1 r1 c1 g1 L (aftZ C R N z 3) hL (by omega) (by omega)) (gd_V q_202 q_154 q_155 q_2 q_156) (by decide +kernel) rfl ⟨Nat.le_of_ble_eq_true rfl, Nat.le_of_ble_eq_true rfl⟩ ⟨Nat.zero_le _, Nat.zero_le _⟩ [3, 4] rfl 3 (ci := 1) rfl rfl rfl rfl (Nat.le_of_ble_eq_true rfl) dX2_cableDirection_36 (fun r_17 hr_17 => ?_)
          subst hr_17
          refine lv_iload_n hx hb dX2_cableDirection_39 rfl (lv_at hl 1 rfl) ?_
          refine zv_iconst hx hb dX2_cableDirection_40 ?_
          refine zv_isub hx hb dX2_cableDirection_41 ?_
          refine zv_icmp_ne hx hb dX2_cableDirection_42 (tgt := 47) (by decide) ⟨by omega, by omega⟩ ⟨by omega, by omega⟩ (fun c_18 => ?_) (fun c_18 => ?_)
          · refine zv_iinc (k := 0) (lv' := [(3, .int (iI 4)), (2, .int (iI (L z))), (0, .ref tt), (1, .int (iI z))]) hx hb dX2_cableDirection_47 hl rfl (by decide) rfl (fun ls hl => ?_)
            refine lv_goto (tgt := 18) hx hb dX2_cableDirection_50 (by decide) ?_
            refine lv_iload_n hx hb dX2_cableDirection_18 rfl (lv_at hl 0 rfl) ?_
            refine zv_iconst hx hb dX2_cableDirection_19 ?_
            refine zv_icmp_ge hx hb dX2_cableDirection_20 (tgt := 53) (by decide) ⟨by omega, by omega⟩ ⟨by omega, by omega⟩ (fun c_19 => ?_) (fun c_19 => by exfalso; omega)
            refine zv_iconst hx hb dX2_cableDirection_53 ?_
            exact PM_iret hx hb hr hlk dX2_cableDirection_54 (by unfold cdZ; first | rw [if_pos (by omega)] | rw [if_neg (by omega), if_pos (by omega)] | rw [if_neg (by omega), if_neg (by omega), if_pos (by omega)] | rw [if_neg (by omega), if_neg (by omega), if_neg (by omega), if_pos (by omega)] | rw [if_neg (by omega), if_neg (by omega), if_neg (by omega), if_neg (by omega), if_pos (by omega)] | rw [if_neg (by omega), if_neg (by omega), if_neg (by omega), if_neg (by omega), if_neg (by omega)])
          · refine lv_iload_n hx hb dX2_cableDirection_45 rfl (lv_at hl 0 rfl) ?_
            exact PM_iret hx hb hr hlk dX2_cableDirection_46 (by unfold cdZ; first | rw [if_pos (by omega)] | rw [if_neg (by omega), if_pos (by omega)] | rw [if_neg (by omega), if_neg (by omega), if_pos (by omega)] | rw [if_neg (by omega), if_neg (by omega), if_neg (by omega), if_pos (by omega)] | rw [if_neg (by omega), if_neg (by omega), if_neg (by omega), if_neg (by omega), if_pos (by omega)] | rw [if_neg (by omega), if_neg (by omega), if_neg (by omega), if_neg (by omega), if_neg (by omega)])
        · refine lv_iload_n hx hb dX2_cableDirection_45 rfl (lv_at hl 0 rfl) ?_
          exact PM_iret hx hb hr hlk dX2_cableDirection_46 (by unfold cdZ; first | rw [if_pos (by omega)] | rw [if_neg (by omega), if_pos (by omega)] | rw [if_neg (by omega), if_neg (by omega), if_pos (by omega)] | rw [if_neg (by omega), if_neg (by omega), if_neg (by omega), if_pos (by omega)] | rw [if_neg (by omega), if_neg (by omega), if_neg (by omega), if_neg (by omega), if_pos (by omega)] | rw [if_neg (by omega), if_neg (by omega), if_neg (by omega), if_neg (by omega), if_neg (by omega)])
      · refine lv_iload_n hx hb dX2_cableDirection_45 rfl (lv_at hl 0 rfl) ?_
        exact PM_iret hx hb hr hlk dX2_cableDirection_46 (by unfold cdZ; first | rw [if_pos (by omega)] | rw [if_neg (by omega), if_pos (by omega)] | rw [if_neg (by omega), if_neg (by omega), if_pos (by omega)] | rw [if_neg (by omega), if_neg (by omega), if_neg (by omega), if_pos (by omega)] | rw [if_neg (by omega), if_neg (by omega), if_neg (by omega), if_neg (by omega), if_pos (by omega)] | rw [if_neg (by omega), if_neg (by omega), if_neg (by omega), if_neg (by omega), if_neg (by omega)])
    · refine lv_iload_n hx hb dX2_cableDirection_45 rfl (lv_at hl 0 rfl) ?_
      exact PM_iret hx hb hr hlk dX2_cableDirection_46 (by unfold cdZ; first | rw [if_pos (by omega)] | rw [if_neg (by omega), if_pos (by omega)] | rw [if_neg (by omega), if_neg (by omega), if_pos (by omega)] | rw [if_neg (by omega), if_neg (by omega), if_neg (by omega), if_pos (by omega)] | rw [if_neg (by omega), if_neg (by omega), if_neg (by omega), if_neg (by omega), if_pos (by omega)] | rw [if_neg (by omega), if_neg (by omega), if_neg (by omega), if_neg (by omega), if_neg (by omega)])
  · refine zv_iconst hx hb dX2_cableDirection_14 ?_
    exact PM_iret hx hb hr hlk dX2_cableDirection_15 (by unfold cdZ; first | rw [if_pos (by omega)] | rw [if_neg (by omega), if_pos (by omega)] | rw [if_neg (by omega), if_neg (by omega), if_pos (by omega)] | rw [if_neg (by omega), if_neg (by omega), if_neg (by omega), if_pos (by omega)] | rw [if_neg (by omega), if_neg (by omega), if_neg (by omega), if_neg (by omega), if_pos (by omega)] | rw [if_neg (by omega), if_neg (by omega), if_neg (by omega), if_neg (by omega), if_neg (by omega)])
set_option maxRecDepth 100000 in
set_option maxHeartbeats 4000000 in
theorem c_X2_alongCable (l : Launch) (D : va_G) (cI cJ : ClassId) (tt fl s1 s2 pn d1 r1 : Nat) (lim bs P sm C R np c1 : Int) (gn g1 : Nat → Int) (N L : Int → Int) (k : Int) (hF : FlOK C R np N gn) (hL : LenOK L g1) (hlm : 1 ≤ lim ∧ lim ≤ 60) (hA : AlOK C R N L P k) (hk0 : 0 ≤ k) (hk1 : k ≤ 20000) : PM l yX2_alongCable (.code yX2_alongCable cX2_alongCable 4 (some .int)) 6 [.ref tt, .int (iI k)] D cI cJ [(tt, .inr (2, [.ref fl, .int (iI lim), .ref s1, .ref s2, .int (iI bs), .int (iI P), .int (iI sm)])), (fl, .inr (0, [.int (iI C), .int (iI R), .ref pn, .int (iI np)])), (pn, .inl (cI, 49, .inl (aI gn))), (s1, .inr (1, [.ref d1, .ref r1, .int (iI c1)])), (d1, .inl (cI, 16807, .inl (aI g1)))] (fun r => r = alZ C R N L P k.toNat) := by
  obtain ⟨hC1, hC2, hR1, hR2, hp1, hp2, -, -⟩ := id hF
  refine PM_of (by decide) rfl (Nat.le_of_ble_eq_true rfl) (fun p e s m below meth c ls hx hb hr hts hown hlk hml hK hP hl => ?_)
  have hl : lv_has ls 4 [(0, .ref tt), (1, .int (iI k))] := hl
  refine lv_aload_n hx hb dX2_alongCable_0 rfl (lv_at hl 0 rfl) ?_
  refine va_get (D := D) (ci := 2) (v := .int (iI P)) (C := RX2) (T := TX2) (N := 7) hx hb hts uX2 hown hK.1 hP 0 rfl rfl 5 (by decide) (hts _ q_162) (fun _ h9 => h9) rfl dX2_alongCable_1 ?_
  refine lv_istore_n (lv' := [(2, .int (iI P)), (0, .ref tt), (1, .int (iI k))]) hx hb dX2_alongCable_4 rfl hl (by decide) rfl (fun ls hl => ?_)
  refine zv_iconst hx hb dX2_alongCable_5 ?_
  refine lv_istore_n (lv' := [(3, .int (iI 0)), (2, .int (iI P)), (0, .ref tt), (1, .int (iI k))]) hx hb dX2_alongCable_6 rfl hl (by decide) rfl (fun ls hl => ?_)
  have loop7 : ∀ (n : Nat) (y i : Int) (j : Nat), (i = (j : Int)) → (i ≤ k) → (y = alZ C R N L P j) → (k - i < (n : Int)) → ∀ ls : Array Slot, lv_has ls 4 [(0, .ref tt), (1, .int (iI k)), (2, .int (iI y)), (3, .int (iI i))] → W p l e (lvl 6) s m [.ref tt, .int (iI k)].toArray below meth c s.heap [] 0 0 (MQ below (PQ (fun r => r = alZ C R N L P k.toNat)) [.ref tt, .int (iI k)].toArray s 0 0 (fun _ => False)) (F0 m 7 ls []) := by
    intro n
    induction n with
    | zero => intro y i j hi hik hy hms; exfalso; omega
    | succ n ih =>
      intro y i j hi hik hy hms ls hl
      refine lv_iload_n hx hb dX2_alongCable_7 rfl (lv_at hl 3 rfl) ?_
      refine lv_iload_n hx hb dX2_alongCable_8 rfl (lv_at hl 1 rfl) ?_
      refine zv_icmp_ge hx hb dX2_alongCable_9 (tgt := 32) (by decide) ⟨by omega, by omega⟩ ⟨by omega, by omega⟩ (fun c_1 => ?_) (fun c_1 => ?_)
      · refine lv_iload_n hx hb dX2_alongCable_32 rfl (lv_at hl 2 rfl) ?_
        exact PM_iret hx hb hr hlk dX2_alongCable_33 (by rw [hy, show k.toNat = j by omega])
      · refine lv_aload_n hx hb dX2_alongCable_12 rfl (lv_at hl 0 rfl) ?_
        refine va_get (D := D) (ci := 2) (v := .ref fl) (C := RX2) (T := TX2) (N := 7) hx hb hts uX2 hown hK.1 hP 0 rfl rfl 0 (by decide) (hts _ q_157) (fun _ h9 => h9) rfl dX2_alongCable_13 ?_
        refine lv_iload_n hx hb dX2_alongCable_16 rfl (lv_at hl 2 rfl) ?_
        obtain ⟨hA1, hA2, hA3⟩ := hA j (by omega)
        rw [← hy] at hA1 hA2 hA3
        obtain ⟨hy0, hy1, hy2⟩ := hA1
        refine lv_aload_n hx hb dX2_alongCable_17 rfl (lv_at hl 0 rfl) ?_
        refine lv_iload_n hx hb dX2_alongCable_18 rfl (lv_at hl 2 rfl) ?_
        refine zc_V (As := [.int (iI y)]) (rest := [.int (iI y), .ref fl]) (ws := [(tt, .inr (2, [.ref fl, .int (iI lim), .ref s1, .ref s2, .int (iI bs), .int (iI P), .int (iI sm)])), (fl, .inr (0, [.int (iI C), .int (iI R), .ref pn, .int (iI np)])), (pn, .inl (cI, 49, .inl (aI gn))), (s1, .inr (1, [.ref d1, .ref r1, .int (iI c1)])), (d1, .inl (cI, 16807, .inl (aI g1)))]) (n := 1) hx hb (hml.trans hl.1.symm) hts hown hK hP (c_X2_cableDirection l D cI cJ tt fl s1 s2 pn d1 r1 lim bs P sm C R np c1 gn g1 N L y hF hL hlm (by omega) (by omega) (by omega)) (gd_V q_216 q_218 q_1006 q_1 q_219) (by decide +kernel) rfl ⟨Nat.le_of_ble_eq_true rfl, Nat.le_of_ble_eq_true rfl⟩ ⟨Nat.zero_le _, Nat.zero_le _⟩ [0, 1, 2, 3, 4] rfl 0 (ci := 2) rfl rfl rfl rfl (Nat.le_of_ble_eq_true rfl) dX2_alongCable_19 (fun r_2 hr_2 => ?_)
        subst hr_2
        refine zc_V (As := [.int (iI y), .int (iI (cdZ C R N L y))]) (rest := []) (ws := [(tt, .inr (2, [.ref fl, .int (iI lim), .ref s1, .ref s2, .int (iI bs), .int (iI P), .int (iI sm)])), (fl, .inr (0, [.int (iI C), .int (iI R), .ref pn, .int (iI np)])), (pn, .inl (cI, 49, .inl (aI gn))), (s1, .inr (1, [.ref d1, .ref r1, .int (iI c1)])), (d1, .inl (cI, 16807, .inl (aI g1)))]) (n := 2) hx hb (hml.trans hl.1.symm) hts hown hK hP (c_X0_after l D cI cJ fl pn C R np gn N y (cdZ C R N L y) hF (by omega) (by omega) (by omega) (by omega) (by omega)) (gd_V q_97 q_98 q_99 q_3 q_100) (by decide +kernel) rfl ⟨Nat.le_of_ble_eq_true rfl, Nat.le_of_ble_eq_true rfl⟩ ⟨Nat.zero_le _, Nat.zero_le _⟩ [1, 2] rfl 1 (ci := 0) rfl rfl rfl rfl (Nat.le_of_ble_eq_true rfl) dX2_alongCable_22 (fun r_3 hr_3 => ?_)
        subst hr_3
        refine lv_istore_n (lv' := [(2, .int (iI (aftZ C R N y (cdZ C R N L y)))), (0, .ref tt), (1, .int (iI k)), (3, .int (iI i))]) hx hb dX2_alongCable_25 rfl hl (by decide) rfl (fun ls hl => ?_)
        refine zv_iinc (k := 3) (lv' := [(3, .int (iI (i + 1))), (2, .int (iI (aftZ C R N y (cdZ C R N L y)))), (0, .ref tt), (1, .int (iI k))]) hx hb dX2_alongCable_26 hl rfl (by decide) rfl (fun ls hl => ?_)
        refine lv_goto (tgt := 7) hx hb dX2_alongCable_29 (by decide) ?_
        exact ih (aftZ C R N y (cdZ C R N L y)) (i + 1) (j + 1) (by omega) (by omega) (by rw [hy]; rfl) (by omega) ls (lv_sub hl [2, 3, 1, 0] rfl)
  exact loop7 (k.toNat + 1) P 0 0 rfl (by omega) rfl (by omega) ls (lv_sub hl [2, 3, 1, 0] rfl)
set_option maxRecDepth 100000 in
set_option maxHeartbeats 4000000 in
theorem c_X2_leastLengthOf (l : Launch) (D : va_G) (cI cJ : ClassId) (tt fl s1 s2 pn d1 r1 : Nat) (lim bs P sm C R np c1 : Int) (gn g1 : Nat → Int) (N L : Int → Int) (q : Int) (hF : FlOK C R np N gn) (hL : LenOK L g1) (hlm : 1 ≤ lim ∧ lim ≤ 60) (hq0 : 0 ≤ q) (hq1 : q < 49) : PM l yX2_leastLengthOf (.code yX2_leastLengthOf cX2_leastLengthOf 5 (some .int)) 2 [.ref tt, .int (iI q)] D cI cJ [(tt, .inr (2, [.ref fl, .int (iI lim), .ref s1, .ref s2, .int (iI bs), .int (iI P), .int (iI sm)])), (fl, .inr (0, [.int (iI C), .int (iI R), .ref pn, .int (iI np)])), (pn, .inl (cI, 49, .inl (aI gn))), (s1, .inr (1, [.ref d1, .ref r1, .int (iI c1)])), (d1, .inl (cI, 16807, .inl (aI g1)))] (fun r => r = lsZ L q) := by
  obtain ⟨hC1, hC2, hR1, hR2, hp1, hp2, -, -⟩ := id hF
  refine PM_of (by decide) rfl (Nat.le_of_ble_eq_true rfl) (fun p e s m below meth c ls hx hb hr hts hown hlk hml hK hP hl => ?_)
  have hl : lv_has ls 5 [(0, .ref tt), (1, .int (iI q))] := hl
  refine zv_iconst hx hb dX2_leastLengthOf_0 ?_
  refine lv_istore_n (lv' := [(2, .int (iI (-1))), (0, .ref tt), (1, .int (iI q))]) hx hb dX2_leastLengthOf_1 rfl hl (by decide) rfl (fun ls hl => ?_)
  refine zv_iconst hx hb dX2_leastLengthOf_2 ?_
  refine lv_istore_n (lv' := [(3, .int (iI 0)), (2, .int (iI (-1))), (0, .ref tt), (1, .int (iI q))]) hx hb dX2_leastLengthOf_3 rfl hl (by decide) rfl (fun ls hl => ?_)
  have loop4 : ∀ (n : Nat) (y i : Int) (j : Nat), (i = (j : Int)) → (i ≤ 343) → (y = lsN L q j) → (343 - i < (n : Int)) → ∀ ls : Array Slot, lv_has ls 5 [(0, .ref tt), (1, .int (iI q)), (2, .int (iI y)), (3, .int (iI i))] → W p l e (lvl 2) s m [.ref tt, .int (iI q)].toArray below meth c s.heap [] 0 0 (MQ below (PQ (fun r => r = lsZ L q)) [.ref tt, .int (iI q)].toArray s 0 0 (fun _ => False)) (F0 m 4 ls []) := by
    intro n
    induction n with
    | zero => intro y i j hi hik hy hms; exfalso; omega
    | succ n ih =>
      intro y i j hi hik hy hms ls hl
      have hyb := lsN_b hL q j
      rw [← hy] at hyb
      have hLb := hL.b (q * 343 + i)
      refine lv_iload_n hx hb dX2_leastLengthOf_4 rfl (lv_at hl 3 rfl) ?_
      refine zv_sipush hx hb dX2_leastLengthOf_5 (by decide) ?_
      refine zv_icmp_ge hx hb dX2_leastLengthOf_8 (tgt := 51) (by decide) ⟨by omega, by omega⟩ ⟨by omega, by omega⟩ (fun c_1 => ?_) (fun c_1 => ?_)
      · refine lv_iload_n hx hb dX2_leastLengthOf_51 rfl (lv_at hl 2 rfl) ?_
        exact PM_iret hx hb hr hlk dX2_leastLengthOf_52 (by rw [hy, show j = 343 by omega]; rfl)
      · refine lv_aload_n hx hb dX2_leastLengthOf_11 rfl (lv_at hl 0 rfl) ?_
        refine va_get (D := D) (ci := 2) (v := .ref s1) (C := RX2) (T := TX2) (N := 7) hx hb hts uX2 hown hK.1 hP 0 rfl rfl 2 (by decide) (hts _ q_159) (fun _ h9 => h9) rfl dX2_leastLengthOf_12 ?_
        refine lv_iload_n hx hb dX2_leastLengthOf_15 rfl (lv_at hl 1 rfl) ?_
        refine lv_iload_n hx hb dX2_leastLengthOf_16 rfl (lv_at hl 3 rfl) ?_
        refine zc_S (As := [.int (iI q), .int (iI i)]) (rest := [.ref s1]) (ws := [(tt, .inr (2, [.ref fl, .int (iI lim), .ref s1, .ref s2, .int (iI bs), .int (iI P), .int (iI sm)])), (fl, .inr (0, [.int (iI C), .int (iI R), .ref pn, .int (iI np)])), (pn, .inl (cI, 49, .inl (aI gn))), (s1, .inr (1, [.ref d1, .ref r1, .int (iI c1)])), (d1, .inl (cI, 16807, .inl (aI g1)))]) (n := 2) hx hb (hml.trans hl.1.symm) hts hown hK hP (c_X2_placeOf l D cI cJ q i) (gd_S q_73 q_74 q_1 q_75) (by decide +kernel) rfl ⟨Nat.le_of_ble_eq_true rfl, Nat.le_of_ble_eq_true rfl⟩ ⟨Nat.zero_le _, Nat.zero_le _⟩ [] rfl rfl (Nat.le_of_ble_eq_true rfl) dX2_leastLengthOf_17 (fun r_2 hr_2 => ?_)
        subst hr_2
        refine zc_V (As := [.int (iI (q * 343 + i))]) (rest := []) (ws := [(tt, .inr (2, [.ref fl, .int (iI lim), .ref s1, .ref s2, .int (iI bs), .int (iI P), .int (iI sm)])), (fl, .inr (0, [.int (iI C), .int (iI R), .ref pn, .int (iI np)])), (pn, .inl (cI, 49, .inl (aI gn))), (s1, .inr (1, [.ref d1, .ref r1, .int (iI c1)])), (d1, .inl (cI, 16807, .inl (aI g1)))]) (n := 1) hx hb (hml.trans hl.1.symm) hts hown hK hP (c_X1_distanceOf l D cI cJ s1 d1 r1 c1 g1 L (q * 343 + i) hL (by omega) (by omega)) (gd_V q_202 q_154 q_155 q_2 q_156) (by decide +kernel) rfl ⟨Nat.le_of_ble_eq_true rfl, Nat.le_of_ble_eq_true rfl⟩ ⟨Nat.zero_le _, Nat.zero_le _⟩ [3, 4] rfl 3 (ci := 1) rfl rfl rfl rfl (Nat.le_of_ble_eq_true rfl) dX2_leastLengthOf_20 (fun r_3 hr_3 => ?_)
        subst hr_3
        refine lv_istore (lv' := [(4, .int (iI (L (q * 343 + i)))), (0, .ref tt), (1, .int (iI q)), (2, .int (iI y)), (3, .int (iI i))]) hx hb dX2_leastLengthOf_23 hl (by decide) rfl (fun ls hl => ?_)
        refine lv_iload hx hb dX2_leastLengthOf_25 (lv_at hl 0 rfl) ?_
        refine zv_iconst hx hb dX2_leastLengthOf_27 ?_
        refine zv_icmp_eq hx hb dX2_leastLengthOf_28 (tgt := 45) (by decide) ⟨by omega, by omega⟩ ⟨by omega, by omega⟩ (fun c_4 => ?_) (fun c_4 => ?_)
        · refine zv_iinc (k := 4) (lv' := [(3, .int (iI (i + 1))), (4, .int (iI (L (q * 343 + i)))), (0, .ref tt), (1, .int (iI q)), (2, .int (iI y))]) hx hb dX2_leastLengthOf_45 hl rfl (by decide) rfl (fun ls hl => ?_)
          refine lv_goto (tgt := 4) hx hb dX2_leastLengthOf_48 (by decide) ?_
          exact ih y (i + 1) (j + 1) (by omega) (by omega) (by unfold lsN; rw [← hi, ← hy]; first | rw [if_pos (by omega)] | rw [if_neg (by omega)]) (by omega) ls (lv_sub hl [2, 3, 4, 0] rfl)
        · refine lv_iload_n hx hb dX2_leastLengthOf_31 rfl (lv_at hl 3 rfl) ?_
          refine zv_iconst hx hb dX2_leastLengthOf_32 ?_
          refine zv_icmp_eq hx hb dX2_leastLengthOf_33 (tgt := 42) (by decide) ⟨by omega, by omega⟩ ⟨by omega, by omega⟩ (fun c_5 => ?_) (fun c_5 => ?_)
          · refine lv_iload hx hb dX2_leastLengthOf_42 (lv_at hl 0 rfl) ?_
            refine lv_istore_n (lv' := [(2, .int (iI (L (q * 343 + i)))), (4, .int (iI (L (q * 343 + i)))), (0, .ref tt), (1, .int (iI q)), (3, .int (iI i))]) hx hb dX2_leastLengthOf_44 rfl hl (by decide) rfl (fun ls hl => ?_)
            refine zv_iinc (k := 4) (lv' := [(3, .int (iI (i + 1))), (2, .int (iI (L (q * 343 + i)))), (4, .int (iI (L (q * 343 + i)))), (0, .ref tt), (1, .int (iI q))]) hx hb dX2_leastLengthOf_45 hl rfl (by decide) rfl (fun ls hl => ?_)
            refine lv_goto (tgt := 4) hx hb dX2_leastLengthOf_48 (by decide) ?_
            exact ih (L (q * 343 + i)) (i + 1) (j + 1) (by omega) (by omega) (by unfold lsN; rw [← hi, ← hy]; first | rw [if_pos (by omega)] | rw [if_neg (by omega)]) (by omega) ls (lv_sub hl [3, 4, 1, 0] rfl)
          · refine lv_iload hx hb dX2_leastLengthOf_36 (lv_at hl 0 rfl) ?_
            refine lv_iload_n hx hb dX2_leastLengthOf_38 rfl (lv_at hl 3 rfl) ?_
            refine zv_icmp_ge hx hb dX2_leastLengthOf_39 (tgt := 45) (by decide) ⟨by omega, by omega⟩ ⟨by omega, by omega⟩ (fun c_6 => ?_) (fun c_6 => ?_)
            · refine zv_iinc (k := 4) (lv' := [(3, .int (iI (i + 1))), (4, .int (iI (L (q * 343 + i)))), (0, .ref tt), (1, .int (iI q)), (2, .int (iI y))]) hx hb dX2_leastLengthOf_45 hl rfl (by decide) rfl (fun ls hl => ?_)
              refine lv_goto (tgt := 4) hx hb dX2_leastLengthOf_48 (by decide) ?_
              exact ih y (i + 1) (j + 1) (by omega) (by omega) (by unfold lsN; rw [← hi, ← hy]; first | rw [if_pos (by omega)] | rw [if_neg (by omega)]) (by omega) ls (lv_sub hl [2, 3, 4, 0] rfl)
            · refine lv_iload hx hb dX2_leastLengthOf_42 (lv_at hl 0 rfl) ?_
              refine lv_istore_n (lv' := [(2, .int (iI (L (q * 343 + i)))), (4, .int (iI (L (q * 343 + i)))), (0, .ref tt), (1, .int (iI q)), (3, .int (iI i))]) hx hb dX2_leastLengthOf_44 rfl hl (by decide) rfl (fun ls hl => ?_)
              refine zv_iinc (k := 4) (lv' := [(3, .int (iI (i + 1))), (2, .int (iI (L (q * 343 + i)))), (4, .int (iI (L (q * 343 + i)))), (0, .ref tt), (1, .int (iI q))]) hx hb dX2_leastLengthOf_45 hl rfl (by decide) rfl (fun ls hl => ?_)
              refine lv_goto (tgt := 4) hx hb dX2_leastLengthOf_48 (by decide) ?_
              exact ih (L (q * 343 + i)) (i + 1) (j + 1) (by omega) (by omega) (by unfold lsN; rw [← hi, ← hy]; first | rw [if_pos (by omega)] | rw [if_neg (by omega)]) (by omega) ls (lv_sub hl [3, 4, 1, 0] rfl)
  exact loop4 344 (-1) 0 0 rfl (by omega) rfl (by omega) ls (lv_sub hl [2, 3, 1, 0] rfl)
set_option maxRecDepth 100000 in
set_option maxHeartbeats 4000000 in
theorem c_X2_length (l : Launch) (D : va_G) (cI cJ : ClassId) (tt fl s1 s2 pn d1 r1 : Nat) (lim bs P sm C R np c1 : Int) (gn g1 : Nat → Int) (N L : Int → Int) (hF : FlOK C R np N gn) (hL : LenOK L g1) (hlm : 1 ≤ lim ∧ lim ≤ 60) (hP0 : 0 ≤ P ∧ P < 16807) : PM l yX2_length (.code yX2_length cX2_length 1 (some .int)) 1 [.ref tt] D cI cJ [(tt, .inr (2, [.ref fl, .int (iI lim), .ref s1, .ref s2, .int (iI bs), .int (iI P), .int (iI sm)])), (fl, .inr (0, [.int (iI C), .int (iI R), .ref pn, .int (iI np)])), (pn, .inl (cI, 49, .inl (aI gn))), (s1, .inr (1, [.ref d1, .ref r1, .int (iI c1)])), (d1, .inl (cI, 16807, .inl (aI g1)))] (fun r => r = L P) := by
  obtain ⟨hC1, hC2, hR1, hR2, hp1, hp2, -, -⟩ := id hF
  obtain ⟨hP1, hP2⟩ := hP0
  refine PM_of (by decide) rfl (Nat.le_of_ble_eq_true rfl) (fun p e s m below meth c ls hx hb hr hts hown hlk hml hK hP hl => ?_)
  have hl : lv_has ls 1 [(0, .ref tt)] := hl
  refine lv_aload_n hx hb dX2_length_0 rfl (lv_at hl 0 rfl) ?_
  refine va_get (D := D) (ci := 2) (v := .ref s1) (C := RX2) (T := TX2) (N := 7) hx hb hts uX2 hown hK.1 hP 0 rfl rfl 2 (by decide) (hts _ q_159) (fun _ h9 => h9) rfl dX2_length_1 ?_
  refine lv_aload_n hx hb dX2_length_4 rfl (lv_at hl 0 rfl) ?_
  refine va_get (D := D) (ci := 2) (v := .int (iI P)) (C := RX2) (T := TX2) (N := 7) hx hb hts uX2 hown hK.1 hP 0 rfl rfl 5 (by decide) (hts _ q_162) (fun _ h9 => h9) rfl dX2_length_5 ?_
  refine zc_V (As := [.int (iI P)]) (rest := []) (ws := [(tt, .inr (2, [.ref fl, .int (iI lim), .ref s1, .ref s2, .int (iI bs), .int (iI P), .int (iI sm)])), (fl, .inr (0, [.int (iI C), .int (iI R), .ref pn, .int (iI np)])), (pn, .inl (cI, 49, .inl (aI gn))), (s1, .inr (1, [.ref d1, .ref r1, .int (iI c1)])), (d1, .inl (cI, 16807, .inl (aI g1)))]) (n := 1) hx hb (hml.trans hl.1.symm) hts hown hK hP (c_X1_distanceOf l D cI cJ s1 d1 r1 c1 g1 L P hL (by omega) (by omega)) (gd_V q_202 q_154 q_155 q_2 q_156) (by decide +kernel) rfl ⟨Nat.le_of_ble_eq_true rfl, Nat.le_of_ble_eq_true rfl⟩ ⟨Nat.zero_le _, Nat.zero_le _⟩ [3, 4] rfl 3 (ci := 1) rfl rfl rfl rfl (Nat.le_of_ble_eq_true rfl) dX2_length_8 (fun r_1 hr_1 => ?_)
  subst hr_1
  exact PM_iret hx hb hr hlk dX2_length_11 (by first | rfl | omega)
set_option maxRecDepth 100000 in
set_option maxHeartbeats 4000000 in
theorem c_X2_slack (l : Launch) (D : va_G) (cI cJ : ClassId) (tt fl s1 s2 pn d1 r1 : Nat) (lim bs P sm C R np c1 : Int) (gn g1 : Nat → Int) (N L : Int → Int) (hF : FlOK C R np N gn) (hL : LenOK L g1) (hlm : 1 ≤ lim ∧ lim ≤ 60) (hP0 : 0 ≤ P ∧ P < 16807) : PM l yX2_slack (.code yX2_slack cX2_slack 1 (some .int)) 2 [.ref tt] D cI cJ [(tt, .inr (2, [.ref fl, .int (iI lim), .ref s1, .ref s2, .int (iI bs), .int (iI P), .int (iI sm)])), (fl, .inr (0, [.int (iI C), .int (iI R), .ref pn, .int (iI np)])), (pn, .inl (cI, 49, .inl (aI gn))), (s1, .inr (1, [.ref d1, .ref r1, .int (iI c1)])), (d1, .inl (cI, 16807, .inl (aI g1)))] (fun r => r = lim - L P) := by
  obtain ⟨hC1, hC2, hR1, hR2, hp1, hp2, -, -⟩ := id hF
  refine PM_of (by decide) rfl (Nat.le_of_ble_eq_true rfl) (fun p e s m below meth c ls hx hb hr hts hown hlk hml hK hP hl => ?_)
  have hl : lv_has ls 1 [(0, .ref tt)] := hl
  refine lv_aload_n hx hb dX2_slack_0 rfl (lv_at hl 0 rfl) ?_
  refine va_get (D := D) (ci := 2) (v := .int (iI lim)) (C := RX2) (T := TX2) (N := 7) hx hb hts uX2 hown hK.1 hP 0 rfl rfl 1 (by decide) (hts _ q_158) (fun _ h9 => h9) rfl dX2_slack_1 ?_
  refine lv_aload_n hx hb dX2_slack_4 rfl (lv_at hl 0 rfl) ?_
  refine zc_V (As := []) (rest := [.int (iI lim)]) (ws := [(tt, .inr (2, [.ref fl, .int (iI lim), .ref s1, .ref s2, .int (iI bs), .int (iI P), .int (iI sm)])), (fl, .inr (0, [.int (iI C), .int (iI R), .ref pn, .int (iI np)])), (pn, .inl (cI, 49, .inl (aI gn))), (s1, .inr (1, [.ref d1, .ref r1, .int (iI c1)])), (d1, .inl (cI, 16807, .inl (aI g1)))]) (n := 0) hx hb (hml.trans hl.1.symm) hts hown hK hP (c_X2_length l D cI cJ tt fl s1 s2 pn d1 r1 lim bs P sm C R np c1 gn g1 N L hF hL hlm hP0) (gd_V q_207 q_199 q_200 q_1 q_201) (by decide +kernel) rfl ⟨Nat.le_of_ble_eq_true rfl, Nat.le_of_ble_eq_true rfl⟩ ⟨Nat.zero_le _, Nat.zero_le _⟩ [0, 1, 2, 3, 4] rfl 0 (ci := 2) rfl rfl rfl rfl (Nat.le_of_ble_eq_true rfl) dX2_slack_5 (fun r_1 hr_1 => ?_)
  subst hr_1
  refine zv_isub hx hb dX2_slack_8 ?_
  exact PM_iret hx hb hr hlk dX2_slack_9 (by first | rfl | omega)
set_option maxRecDepth 100000 in
set_option maxHeartbeats 4000000 in
theorem c_X2_steps (l : Launch) (D : va_G) (cI cJ : ClassId) (tt fl s1 s2 pn d1 r1 : Nat) (lim bs P sm C R np c1 : Int) (gn g1 : Nat → Int) (N L : Int → Int) (hF : FlOK C R np N gn) (hL : LenOK L g1) (hlm : 1 ≤ lim ∧ lim ≤ 60) : PM l yX2_steps (.code yX2_steps cX2_steps 1 (some .int)) 0 [.ref tt] D cI cJ [(tt, .inr (2, [.ref fl, .int (iI lim), .ref s1, .ref s2, .int (iI bs), .int (iI P), .int (iI sm)])), (fl, .inr (0, [.int (iI C), .int (iI R), .ref pn, .int (iI np)])), (pn, .inl (cI, 49, .inl (aI gn))), (s1, .inr (1, [.ref d1, .ref r1, .int (iI c1)])), (d1, .inl (cI, 16807, .inl (aI g1)))] (fun r => r = sm) := by
  obtain ⟨hC1, hC2, hR1, hR2, hp1, hp2, -, -⟩ := id hF
  refine PM_of (by decide) rfl (Nat.le_of_ble_eq_true rfl) (fun p e s m below meth c ls hx hb hr hts hown hlk hml hK hP hl => ?_)
  have hl : lv_has ls 1 [(0, .ref tt)] := hl
  refine lv_aload_n hx hb dX2_steps_0 rfl (lv_at hl 0 rfl) ?_
  refine va_get (D := D) (ci := 2) (v := .int (iI sm)) (C := RX2) (T := TX2) (N := 7) hx hb hts uX2 hown hK.1 hP 0 rfl rfl 6 (by decide) (hts _ q_163) (fun _ h9 => h9) rfl dX2_steps_1 ?_
  exact PM_iret hx hb hr hlk dX2_steps_4 (by first | rfl | omega)
set_option maxRecDepth 100000 in
set_option maxHeartbeats 4000000 in
theorem c_X2_column (l : Launch) (D : va_G) (cI cJ : ClassId) (tt fl s1 s2 pn d1 r1 : Nat) (lim bs P sm C R np c1 : Int) (gn g1 : Nat → Int) (N L : Int → Int) (hF : FlOK C R np N gn) (hL : LenOK L g1) (hlm : 1 ≤ lim ∧ lim ≤ 60) (hP0 : 0 ≤ P ∧ P < 16807) : PM l yX2_column (.code yX2_column cX2_column 1 (some .int)) 1 [.ref tt] D cI cJ [(tt, .inr (2, [.ref fl, .int (iI lim), .ref s1, .ref s2, .int (iI bs), .int (iI P), .int (iI sm)])), (fl, .inr (0, [.int (iI C), .int (iI R), .ref pn, .int (iI np)])), (pn, .inl (cI, 49, .inl (aI gn))), (s1, .inr (1, [.ref d1, .ref r1, .int (iI c1)])), (d1, .inl (cI, 16807, .inl (aI g1)))] (fun r => r = P / 343 / 7) := by
  obtain ⟨hC1, hC2, hR1, hR2, hp1, hp2, -, -⟩ := id hF
  refine PM_of (by decide) rfl (Nat.le_of_ble_eq_true rfl) (fun p e s m below meth c ls hx hb hr hts hown hlk hml hK hP hl => ?_)
  have hl : lv_has ls 1 [(0, .ref tt)] := hl
  refine lv_aload_n hx hb dX2_column_0 rfl (lv_at hl 0 rfl) ?_
  refine va_get (D := D) (ci := 2) (v := .int (iI P)) (C := RX2) (T := TX2) (N := 7) hx hb hts uX2 hown hK.1 hP 0 rfl rfl 5 (by decide) (hts _ q_162) (fun _ h9 => h9) rfl dX2_column_1 ?_
  refine zc_S (As := [.int (iI P)]) (rest := []) (ws := [(tt, .inr (2, [.ref fl, .int (iI lim), .ref s1, .ref s2, .int (iI bs), .int (iI P), .int (iI sm)])), (fl, .inr (0, [.int (iI C), .int (iI R), .ref pn, .int (iI np)])), (pn, .inl (cI, 49, .inl (aI gn))), (s1, .inr (1, [.ref d1, .ref r1, .int (iI c1)])), (d1, .inl (cI, 16807, .inl (aI g1)))]) (n := 1) hx hb (hml.trans hl.1.symm) hts hown hK hP (c_X2_squareOf l D cI cJ P (by omega) (by omega)) (gd_S q_183 q_102 q_1 q_103) (by decide +kernel) rfl ⟨Nat.le_of_ble_eq_true rfl, Nat.le_of_ble_eq_true rfl⟩ ⟨Nat.zero_le _, Nat.zero_le _⟩ [] rfl rfl (Nat.le_of_ble_eq_true rfl) dX2_column_4 (fun r_1 hr_1 => ?_)
  subst hr_1
  refine zc_S (As := [.int (iI (P / 343))]) (rest := []) (ws := [(tt, .inr (2, [.ref fl, .int (iI lim), .ref s1, .ref s2, .int (iI bs), .int (iI P), .int (iI sm)])), (fl, .inr (0, [.int (iI C), .int (iI R), .ref pn, .int (iI np)])), (pn, .inl (cI, 49, .inl (aI gn))), (s1, .inr (1, [.ref d1, .ref r1, .int (iI c1)])), (d1, .inl (cI, 16807, .inl (aI g1)))]) (n := 1) hx hb (hml.trans hl.1.symm) hts hown hK hP (c_X2_columnOf l D cI cJ (P / 343) (by omega) (by omega)) (gd_S q_184 q_105 q_1 q_106) (by decide +kernel) rfl ⟨Nat.le_of_ble_eq_true rfl, Nat.le_of_ble_eq_true rfl⟩ ⟨Nat.zero_le _, Nat.zero_le _⟩ [] rfl rfl (Nat.le_of_ble_eq_true rfl) dX2_column_7 (fun r_2 hr_2 => ?_)
  subst hr_2
  exact PM_iret hx hb hr hlk dX2_column_10 (by first | rfl | omega)
set_option maxRecDepth 100000 in
set_option maxHeartbeats 4000000 in
theorem c_X2_row (l : Launch) (D : va_G) (cI cJ : ClassId) (tt fl s1 s2 pn d1 r1 : Nat) (lim bs P sm C R np c1 : Int) (gn g1 : Nat → Int) (N L : Int → Int) (hF : FlOK C R np N gn) (hL : LenOK L g1) (hlm : 1 ≤ lim ∧ lim ≤ 60) (hP0 : 0 ≤ P ∧ P < 16807) : PM l yX2_row (.code yX2_row cX2_row 1 (some .int)) 1 [.ref tt] D cI cJ [(tt, .inr (2, [.ref fl, .int (iI lim), .ref s1, .ref s2, .int (iI bs), .int (iI P), .int (iI sm)])), (fl, .inr (0, [.int (iI C), .int (iI R), .ref pn, .int (iI np)])), (pn, .inl (cI, 49, .inl (aI gn))), (s1, .inr (1, [.ref d1, .ref r1, .int (iI c1)])), (d1, .inl (cI, 16807, .inl (aI g1)))] (fun r => r = P / 343 % 7) := by
  obtain ⟨hC1, hC2, hR1, hR2, hp1, hp2, -, -⟩ := id hF
  refine PM_of (by decide) rfl (Nat.le_of_ble_eq_true rfl) (fun p e s m below meth c ls hx hb hr hts hown hlk hml hK hP hl => ?_)
  have hl : lv_has ls 1 [(0, .ref tt)] := hl
  refine lv_aload_n hx hb dX2_row_0 rfl (lv_at hl 0 rfl) ?_
  refine va_get (D := D) (ci := 2) (v := .int (iI P)) (C := RX2) (T := TX2) (N := 7) hx hb hts uX2 hown hK.1 hP 0 rfl rfl 5 (by decide) (hts _ q_162) (fun _ h9 => h9) rfl dX2_row_1 ?_
  refine zc_S (As := [.int (iI P)]) (rest := []) (ws := [(tt, .inr (2, [.ref fl, .int (iI lim), .ref s1, .ref s2, .int (iI bs), .int (iI P), .int (iI sm)])), (fl, .inr (0, [.int (iI C), .int (iI R), .ref pn, .int (iI np)])), (pn, .inl (cI, 49, .inl (aI gn))), (s1, .inr (1, [.ref d1, .ref r1, .int (iI c1)])), (d1, .inl (cI, 16807, .inl (aI g1)))]) (n := 1) hx hb (hml.trans hl.1.symm) hts hown hK hP (c_X2_squareOf l D cI cJ P (by omega) (by omega)) (gd_S q_183 q_102 q_1 q_103) (by decide +kernel) rfl ⟨Nat.le_of_ble_eq_true rfl, Nat.le_of_ble_eq_true rfl⟩ ⟨Nat.zero_le _, Nat.zero_le _⟩ [] rfl rfl (Nat.le_of_ble_eq_true rfl) dX2_row_4 (fun r_1 hr_1 => ?_)
  subst hr_1
  refine zc_S (As := [.int (iI (P / 343))]) (rest := []) (ws := [(tt, .inr (2, [.ref fl, .int (iI lim), .ref s1, .ref s2, .int (iI bs), .int (iI P), .int (iI sm)])), (fl, .inr (0, [.int (iI C), .int (iI R), .ref pn, .int (iI np)])), (pn, .inl (cI, 49, .inl (aI gn))), (s1, .inr (1, [.ref d1, .ref r1, .int (iI c1)])), (d1, .inl (cI, 16807, .inl (aI g1)))]) (n := 1) hx hb (hml.trans hl.1.symm) hts hown hK hP (c_X2_rowOf l D cI cJ (P / 343) (by omega) (by omega)) (gd_S q_189 q_108 q_1 q_109) (by decide +kernel) rfl ⟨Nat.le_of_ble_eq_true rfl, Nat.le_of_ble_eq_true rfl⟩ ⟨Nat.zero_le _, Nat.zero_le _⟩ [] rfl rfl (Nat.le_of_ble_eq_true rfl) dX2_row_7 (fun r_2 hr_2 => ?_)
  subst hr_2
  exact PM_iret hx hb hr hlk dX2_row_10 (by first | rfl | omega)
set_option maxRecDepth 100000 in
set_option maxHeartbeats 4000000 in
theorem c_X2_letters (l : Launch) (D : va_G) (cI cJ : ClassId) (tt fl s1 s2 pn d1 r1 : Nat) (lim bs P sm C R np c1 : Int) (gn g1 : Nat → Int) (N L : Int → Int) (hF : FlOK C R np N gn) (hL : LenOK L g1) (hlm : 1 ≤ lim ∧ lim ≤ 60) (hP0 : 0 ≤ P ∧ P < 16807) : PM l yX2_letters (.code yX2_letters cX2_letters 1 (some .int)) 1 [.ref tt] D cI cJ [(tt, .inr (2, [.ref fl, .int (iI lim), .ref s1, .ref s2, .int (iI bs), .int (iI P), .int (iI sm)])), (fl, .inr (0, [.int (iI C), .int (iI R), .ref pn, .int (iI np)])), (pn, .inl (cI, 49, .inl (aI gn))), (s1, .inr (1, [.ref d1, .ref r1, .int (iI c1)])), (d1, .inl (cI, 16807, .inl (aI g1)))] (fun r => r = lenZ (P % 343)) := by
  obtain ⟨hC1, hC2, hR1, hR2, hp1, hp2, -, -⟩ := id hF
  refine PM_of (by decide) rfl (Nat.le_of_ble_eq_true rfl) (fun p e s m below meth c ls hx hb hr hts hown hlk hml hK hP hl => ?_)
  have hl : lv_has ls 1 [(0, .ref tt)] := hl
  refine lv_aload_n hx hb dX2_letters_0 rfl (lv_at hl 0 rfl) ?_
  refine va_get (D := D) (ci := 2) (v := .int (iI P)) (C := RX2) (T := TX2) (N := 7) hx hb hts uX2 hown hK.1 hP 0 rfl rfl 5 (by decide) (hts _ q_162) (fun _ h9 => h9) rfl dX2_letters_1 ?_
  refine zc_S (As := [.int (iI P)]) (rest := []) (ws := [(tt, .inr (2, [.ref fl, .int (iI lim), .ref s1, .ref s2, .int (iI bs), .int (iI P), .int (iI sm)])), (fl, .inr (0, [.int (iI C), .int (iI R), .ref pn, .int (iI np)])), (pn, .inl (cI, 49, .inl (aI gn))), (s1, .inr (1, [.ref d1, .ref r1, .int (iI c1)])), (d1, .inl (cI, 16807, .inl (aI g1)))]) (n := 1) hx hb (hml.trans hl.1.symm) hts hown hK hP (c_X2_wordOf l D cI cJ P (by omega) (by omega)) (gd_S q_194 q_111 q_1 q_112) (by decide +kernel) rfl ⟨Nat.le_of_ble_eq_true rfl, Nat.le_of_ble_eq_true rfl⟩ ⟨Nat.zero_le _, Nat.zero_le _⟩ [] rfl rfl (Nat.le_of_ble_eq_true rfl) dX2_letters_4 (fun r_1 hr_1 => ?_)
  subst hr_1
  refine zc_S (As := [.int (iI (P % 343))]) (rest := []) (ws := [(tt, .inr (2, [.ref fl, .int (iI lim), .ref s1, .ref s2, .int (iI bs), .int (iI P), .int (iI sm)])), (fl, .inr (0, [.int (iI C), .int (iI R), .ref pn, .int (iI np)])), (pn, .inl (cI, 49, .inl (aI gn))), (s1, .inr (1, [.ref d1, .ref r1, .int (iI c1)])), (d1, .inl (cI, 16807, .inl (aI g1)))]) (n := 1) hx hb (hml.trans hl.1.symm) hts hown hK hP (c_X2_lettersOf l D cI cJ (P % 343) (by omega) (by omega)) (gd_S q_195 q_196 q_1 q_197) (by decide +kernel) rfl ⟨Nat.le_of_ble_eq_true rfl, Nat.le_of_ble_eq_true rfl⟩ ⟨Nat.zero_le _, Nat.zero_le _⟩ [] rfl rfl (Nat.le_of_ble_eq_true rfl) dX2_letters_7 (fun r_2 hr_2 => ?_)
  subst hr_2
  exact PM_iret hx hb hr hlk dX2_letters_10 (by first | rfl | omega)
set_option maxRecDepth 100000 in
set_option maxHeartbeats 4000000 in
theorem c_X2_bends (l : Launch) (D : va_G) (cI cJ : ClassId) (tt fl s1 s2 pn d1 r1 : Nat) (lim bs P sm C R np c1 : Int) (gn g1 : Nat → Int) (N L : Int → Int) (hF : FlOK C R np N gn) (hL : LenOK L g1) (hlm : 1 ≤ lim ∧ lim ≤ 60) (hP0 : 0 ≤ P ∧ P < 16807) (hA : AlOK C R N L P (L P)) (hrow : PlOK R (alZ C R N L P (L P).toNat)) : PM l yX2_bends (.code yX2_bends cX2_bends 6 (some .int)) 6 [.ref tt] D cI cJ [(tt, .inr (2, [.ref fl, .int (iI lim), .ref s1, .ref s2, .int (iI bs), .int (iI P), .int (iI sm)])), (fl, .inr (0, [.int (iI C), .int (iI R), .ref pn, .int (iI np)])), (pn, .inl (cI, 49, .inl (aI gn))), (s1, .inr (1, [.ref d1, .ref r1, .int (iI c1)])), (d1, .inl (cI, 16807, .inl (aI g1)))] (fun r => r = bdN C R N L P (L P - 1).toNat) := by
  obtain ⟨hC1, hC2, hR1, hR2, hp1, hp2, -, -⟩ := id hF
  have hLP := hL.b P
  have hrow0 : ∀ j : Nat, (j : Int) ≤ L P → PlOK R (alZ C R N L P j) := fun j hj => by
    rcases Int.lt_or_eq_of_le hj with h | h
    · exact (hA j h).1
    · rw [show j = (L P).toNat by omega]; exact hrow
  have hrP : 0 ≤ P ∧ P < 16807 ∧ P / 343 % 7 < R := by
    by_cases h : 0 ≤ L P
    · exact hrow0 0 h
    · rw [show (L P).toNat = 0 by omega] at hrow; exact hrow
  have hcb := cdZ_b C R N L P
  refine PM_of (by decide) rfl (Nat.le_of_ble_eq_true rfl) (fun p e s m below meth c ls hx hb hr hts hown hlk hml hK hP hl => ?_)
  have hl : lv_has ls 6 [(0, .ref tt)] := hl
  refine zv_iconst hx hb dX2_bends_0 ?_
  refine lv_istore_n (lv' := [(1, .int (iI 0)), (0, .ref tt)]) hx hb dX2_bends_1 rfl hl (by decide) rfl (fun ls hl => ?_)
  refine lv_aload_n hx hb dX2_bends_2 rfl (lv_at hl 1 rfl) ?_
  refine va_get (D := D) (ci := 2) (v := .int (iI P)) (C := RX2) (T := TX2) (N := 7) hx hb hts uX2 hown hK.1 hP 0 rfl rfl 5 (by decide) (hts _ q_162) (fun _ h9 => h9) rfl dX2_bends_3 ?_
  refine lv_istore_n (lv' := [(2, .int (iI P)), (1, .int (iI 0)), (0, .ref tt)]) hx hb dX2_bends_6 rfl hl (by decide) rfl (fun ls hl => ?_)
  refine lv_aload_n hx hb dX2_bends_7 rfl (lv_at hl 2 rfl) ?_
  refine lv_iload_n hx hb dX2_bends_8 rfl (lv_at hl 0 rfl) ?_
  refine zc_V (As := [.int (iI P)]) (rest := []) (ws := [(tt, .inr (2, [.ref fl, .int (iI lim), .ref s1, .ref s2, .int (iI bs), .int (iI P), .int (iI sm)])), (fl, .inr (0, [.int (iI C), .int (iI R), .ref pn, .int (iI np)])), (pn, .inl (cI, 49, .inl (aI gn))), (s1, .inr (1, [.ref d1, .ref r1, .int (iI c1)])), (d1, .inl (cI, 16807, .inl (aI g1)))]) (n := 1) hx hb (hml.trans hl.1.symm) hts hown hK hP (c_X2_cableDirection l D cI cJ tt fl s1 s2 pn d1 r1 lim bs P sm C R np c1 gn g1 N L P hF hL hlm (by omega) (by omega) (by omega)) (gd_V q_216 q_218 q_1006 q_1 q_219) (by decide +kernel) rfl ⟨Nat.le_of_ble_eq_true rfl, Nat.le_of_ble_eq_true rfl⟩ ⟨Nat.zero_le _, Nat.zero_le _⟩ [0, 1, 2, 3, 4] rfl 0 (ci := 2) rfl rfl rfl rfl (Nat.le_of_ble_eq_true rfl) dX2_bends_9 (fun r_1 hr_1 => ?_)
  subst hr_1
  refine lv_istore_n (lv' := [(3, .int (iI (cdZ C R N L P))), (2, .int (iI P)), (1, .int (iI 0)), (0, .ref tt)]) hx hb dX2_bends_12 rfl hl (by decide) rfl (fun ls hl => ?_)
  refine lv_aload_n hx hb dX2_bends_13 rfl (lv_at hl 3 rfl) ?_
  refine zc_V (As := []) (rest := []) (ws := [(tt, .inr (2, [.ref fl, .int (iI lim), .ref s1, .ref s2, .int (iI bs), .int (iI P), .int (iI sm)])), (fl, .inr (0, [.int (iI C), .int (iI R), .ref pn, .int (iI np)])), (pn, .inl (cI, 49, .inl (aI gn))), (s1, .inr (1, [.ref d1, .ref r1, .int (iI c1)])), (d1, .inl (cI, 16807, .inl (aI g1)))]) (n := 0) hx hb (hml.trans hl.1.symm) hts hown hK hP (c_X2_length l D cI cJ tt fl s1 s2 pn d1 r1 lim bs P sm C R np c1 gn g1 N L hF hL hlm hP0) (gd_V q_207 q_199 q_200 q_1 q_201) (by decide +kernel) rfl ⟨Nat.le_of_ble_eq_true rfl, Nat.le_of_ble_eq_true rfl⟩ ⟨Nat.zero_le _, Nat.zero_le _⟩ [0, 1, 2, 3, 4] rfl 0 (ci := 2) rfl rfl rfl rfl (Nat.le_of_ble_eq_true rfl) dX2_bends_14 (fun r_2 hr_2 => ?_)
  subst hr_2
  refine lv_istore (lv' := [(4, .int (iI (L P))), (3, .int (iI (cdZ C R N L P))), (2, .int (iI P)), (1, .int (iI 0)), (0, .ref tt)]) hx hb dX2_bends_17 hl (by decide) rfl (fun ls hl => ?_)
  have loop19 : ∀ (n : Nat) (u y f v : Int) (j : Nat), (v = L P - (j : Int)) → (j = 0 ∨ 1 ≤ v) → (y = alZ C R N L P j) → (f = cdZ C R N L (alZ C R N L P j)) → (u = bdN C R N L P j) → (v + 1 < (n : Int)) → ∀ ls : Array Slot, lv_has ls 6 [(0, .ref tt), (1, .int (iI u)), (2, .int (iI y)), (3, .int (iI f)), (4, .int (iI v))] → W p l e (lvl 6) s m [.ref tt].toArray below meth c s.heap [] 0 0 (MQ below (PQ (fun r => r = bdN C R N L P (L P - 1).toNat)) [.ref tt].toArray s 0 0 (fun _ => False)) (F0 m 19 ls []) := by
    intro n
    induction n with
    | zero => intro u y f v j hv hv0 hy hf hu hms; exfalso; omega
    | succ n ih =>
      intro u y f v j hv hv0 hy hf hu hms ls hl
      have hfb := cdZ_b C R N L (alZ C R N L P j)
      rw [← hf] at hfb
      refine lv_iload hx hb dX2_bends_19 (lv_at hl 4 rfl) ?_
      refine zv_iconst hx hb dX2_bends_21 ?_
      refine zv_icmp_le hx hb dX2_bends_22 (tgt := 60) (by decide) ⟨by omega, by omega⟩ ⟨by omega, by omega⟩ (fun c_3 => ?_) (fun c_3 => ?_)
      · refine lv_iload_n hx hb dX2_bends_60 rfl (lv_at hl 1 rfl) ?_
        exact PM_iret hx hb hr hlk dX2_bends_61 (by rw [hu, show (L P - 1).toNat = j by omega])
      · refine lv_aload_n hx hb dX2_bends_25 rfl (lv_at hl 0 rfl) ?_
        refine va_get (D := D) (ci := 2) (v := .ref fl) (C := RX2) (T := TX2) (N := 7) hx hb hts uX2 hown hK.1 hP 0 rfl rfl 0 (by decide) (hts _ q_157) (fun _ h9 => h9) rfl dX2_bends_26 ?_
        refine lv_iload_n hx hb dX2_bends_29 rfl (lv_at hl 2 rfl) ?_
        refine lv_iload_n hx hb dX2_bends_30 rfl (lv_at hl 3 rfl) ?_
        obtain ⟨hA1, hA2, hA3⟩ := hA j (by omega)
        have hA4 := hrow0 (j + 1) (by omega)
        rw [show alZ C R N L P (j + 1) = aftZ C R N y f by rw [hy, hf]; rfl] at hA4
        rw [← hf] at hA2 hA3
        rw [← hy] at hA1
        obtain ⟨hy0, hy1, hy2⟩ := hA1
        obtain ⟨hz0, hz1, hz2⟩ := hA4
        refine zc_V (As := [.int (iI y), .int (iI f)]) (rest := []) (ws := [(tt, .inr (2, [.ref fl, .int (iI lim), .ref s1, .ref s2, .int (iI bs), .int (iI P), .int (iI sm)])), (fl, .inr (0, [.int (iI C), .int (iI R), .ref pn, .int (iI np)])), (pn, .inl (cI, 49, .inl (aI gn))), (s1, .inr (1, [.ref d1, .ref r1, .int (iI c1)])), (d1, .inl (cI, 16807, .inl (aI g1)))]) (n := 2) hx hb (hml.trans hl.1.symm) hts hown hK hP (c_X0_after l D cI cJ fl pn C R np gn N y f hF (by omega) (by omega) (by omega) (by omega) (by omega)) (gd_V q_97 q_98 q_99 q_3 q_100) (by decide +kernel) rfl ⟨Nat.le_of_ble_eq_true rfl, Nat.le_of_ble_eq_true rfl⟩ ⟨Nat.zero_le _, Nat.zero_le _⟩ [1, 2] rfl 1 (ci := 0) rfl rfl rfl rfl (Nat.le_of_ble_eq_true rfl) dX2_bends_31 (fun r_4 hr_4 => ?_)
        subst hr_4
        refine lv_istore_n (lv' := [(2, .int (iI (aftZ C R N y f))), (0, .ref tt), (1, .int (iI u)), (3, .int (iI f)), (4, .int (iI v))]) hx hb dX2_bends_34 rfl hl (by decide) rfl (fun ls hl => ?_)
        refine lv_aload_n hx hb dX2_bends_35 rfl (lv_at hl 1 rfl) ?_
        refine lv_iload_n hx hb dX2_bends_36 rfl (lv_at hl 0 rfl) ?_
        refine zc_V (As := [.int (iI (aftZ C R N y f))]) (rest := []) (ws := [(tt, .inr (2, [.ref fl, .int (iI lim), .ref s1, .ref s2, .int (iI bs), .int (iI P), .int (iI sm)])), (fl, .inr (0, [.int (iI C), .int (iI R), .ref pn, .int (iI np)])), (pn, .inl (cI, 49, .inl (aI gn))), (s1, .inr (1, [.ref d1, .ref r1, .int (iI c1)])), (d1, .inl (cI, 16807, .inl (aI g1)))]) (n := 1) hx hb (hml.trans hl.1.symm) hts hown hK hP (c_X2_cableDirection l D cI cJ tt fl s1 s2 pn d1 r1 lim bs P sm C R np c1 gn g1 N L (aftZ C R N y f) hF hL hlm (by omega) (by omega) (by omega)) (gd_V q_216 q_218 q_1006 q_1 q_219) (by decide +kernel) rfl ⟨Nat.le_of_ble_eq_true rfl, Nat.le_of_ble_eq_true rfl⟩ ⟨Nat.zero_le _, Nat.zero_le _⟩ [0, 1, 2, 3, 4] rfl 0 (ci := 2) rfl rfl rfl rfl (Nat.le_of_ble_eq_true rfl) dX2_bends_37 (fun r_5 hr_5 => ?_)
        subst hr_5
        refine lv_istore (lv' := [(5, .int (iI (cdZ C R N L (aftZ C R N y f)))), (2, .int (iI (aftZ C R N y f))), (0, .ref tt), (1, .int (iI u)), (3, .int (iI f)), (4, .int (iI v))]) hx hb dX2_bends_40 hl (by decide) rfl (fun ls hl => ?_)
        refine lv_iload hx hb dX2_bends_42 (lv_at hl 0 rfl) ?_
        have hgb := cdZ_b C R N L (aftZ C R N y f)
        refine lv_iload_n hx hb dX2_bends_44 rfl (lv_at hl 4 rfl) ?_
        refine zv_icmp_eq hx hb dX2_bends_45 (tgt := 51) (by decide) ⟨by omega, by omega⟩ ⟨by omega, by omega⟩ (fun c_6 => ?_) (fun c_6 => ?_)
        · refine lv_iload hx hb dX2_bends_51 (lv_at hl 0 rfl) ?_
          refine lv_istore_n (lv' := [(3, .int (iI (cdZ C R N L (aftZ C R N y f)))), (5, .int (iI (cdZ C R N L (aftZ C R N y f)))), (2, .int (iI (aftZ C R N y f))), (0, .ref tt), (1, .int (iI u)), (4, .int (iI v))]) hx hb dX2_bends_53 rfl hl (by decide) rfl (fun ls hl => ?_)
          refine zv_iinc (k := 5) (lv' := [(4, .int (iI (v + (-1)))), (3, .int (iI (cdZ C R N L (aftZ C R N y f)))), (5, .int (iI (cdZ C R N L (aftZ C R N y f)))), (2, .int (iI (aftZ C R N y f))), (0, .ref tt), (1, .int (iI u))]) hx hb dX2_bends_54 hl rfl (by decide) rfl (fun ls hl => ?_)
          refine lv_goto (tgt := 19) hx hb dX2_bends_57 (by decide) ?_
          exact ih u (aftZ C R N y f) (cdZ C R N L (aftZ C R N y f)) (v + (-1)) (j + 1) (by omega) (by omega) (by rw [hy, hf]; rfl) (by rw [hy, hf]; rfl) (by show _ = bdN C R N L P j + _; rw [← hu, show alZ C R N L P (j + 1) = aftZ C R N y f by rw [hy, hf]; rfl, ← hf]; first | rw [if_pos (by assumption)]; omega | rw [if_neg (by assumption)]) (by omega) ls (lv_sub hl [4, 5, 3, 1, 0] rfl)
        · refine zv_iinc (k := 3) (lv' := [(1, .int (iI (u + 1))), (5, .int (iI (cdZ C R N L (aftZ C R N y f)))), (2, .int (iI (aftZ C R N y f))), (0, .ref tt), (3, .int (iI f)), (4, .int (iI v))]) hx hb dX2_bends_48 hl rfl (by decide) rfl (fun ls hl => ?_)
          refine lv_iload hx hb dX2_bends_51 (lv_at hl 1 rfl) ?_
          refine lv_istore_n (lv' := [(3, .int (iI (cdZ C R N L (aftZ C R N y f)))), (1, .int (iI (u + 1))), (5, .int (iI (cdZ C R N L (aftZ C R N y f)))), (2, .int (iI (aftZ C R N y f))), (0, .ref tt), (4, .int (iI v))]) hx hb dX2_bends_53 rfl hl (by decide) rfl (fun ls hl => ?_)
          refine zv_iinc (k := 5) (lv' := [(4, .int (iI (v + (-1)))), (3, .int (iI (cdZ C R N L (aftZ C R N y f)))), (1, .int (iI (u + 1))), (5, .int (iI (cdZ C R N L (aftZ C R N y f)))), (2, .int (iI (aftZ C R N y f))), (0, .ref tt)]) hx hb dX2_bends_54 hl rfl (by decide) rfl (fun ls hl => ?_)
          refine lv_goto (tgt := 19) hx hb dX2_bends_57 (by decide) ?_
          exact ih (u + 1) (aftZ C R N y f) (cdZ C R N L (aftZ C R N y f)) (v + (-1)) (j + 1) (by omega) (by omega) (by rw [hy, hf]; rfl) (by rw [hy, hf]; rfl) (by show _ = bdN C R N L P j + _; rw [← hu, show alZ C R N L P (j + 1) = aftZ C R N y f by rw [hy, hf]; rfl, ← hf]; first | rw [if_pos (by assumption)]; omega | rw [if_neg (by assumption)]) (by omega) ls (lv_sub hl [5, 2, 4, 1, 0] rfl)
  exact loop19 ((L P).toNat + 2) 0 P (cdZ C R N L P) (L P) 0 (by omega) (by omega) rfl rfl rfl (by omega) ls (lv_sub hl [4, 3, 2, 1, 0] rfl)
end
section
theorem plZ_c {C R : Int} {N : Int → Int} {a b w : Int} (hR : R ≤ 7) (hw : 0 ≤ w) (h : plZ C R N a b w ≠ -1) : plZ C R N a b w / 343 / 7 = a ∧ plZ C R N a b w / 343 % 7 = b ∧ plZ C R N a b w % 343 = w ∧ w < 343 ∧ 0 ≤ a ∧ a < C ∧ 0 ≤ b ∧ b < R ∧ N (a * 7 + b) = -1 ∧ plZ C R N a b w = (a * 7 + b) * 343 + w := by
  unfold plZ at h ⊢
  split at h
  · rename_i hc
    rw [if_pos hc]
    obtain ⟨h1, h2, h3, h4, h5, h6⟩ := hc
    refine ⟨by omega, by omega, by omega, h1, h2, h3, h4, h5, h6, rfl⟩
  · exact absurd rfl h
/-- a walk of so many steps -/
def wkZ (C R : Int) (N : Int → Int) : Nat → Int → Int → Prop
  | 0, a, b => a = b
  | k + 1, a, b => ∃ d : Int, 0 ≤ d ∧ d ≤ 3 ∧ aftZ C R N a d ≠ -1 ∧ wkZ C R N k (aftZ C R N a d) b
def apZ (a b : Int) : Int := absZ (a / 343 / 7 - b / 343 / 7) + absZ (a / 343 % 7 - b / 343 % 7)
theorem aftZ_ap {C R np : Int} {N : Int → Int} {gn : Nat → Int} (hF : FlOK C R np N gn) {a b d : Int} (ha : PlOK R a) (hd0 : 0 ≤ d) (hd : d ≤ 3) (h : aftZ C R N a d ≠ -1) : apZ a b ≤ apZ (aftZ C R N a d) b + 1 := by
  obtain ⟨z1, z2, z3⟩ := ha
  have hwR := wRZ_b hF (c := a / 343 / 7) (r := a / 343 % 7) (w := a % 343) (by omega) (by omega) (by omega)
  have hwL := wLZ_b hF (c := a / 343 / 7 - 1) (r := a / 343 % 7) (w := a % 343) (by omega) (by omega) (by omega)
  obtain ⟨-, -, -, hR, -⟩ := hF
  rcases (show d = 0 ∨ d = 1 ∨ d = 2 ∨ d = 3 by omega) with rfl | rfl | rfl | rfl
  · rw [aftZ_0] at h ⊢
    obtain ⟨e1, e2, -⟩ := plZ_c hR (by omega) h
    unfold apZ absZ
    rw [e1, e2]
    (repeat' split) <;> omega
  · rw [aftZ_1] at h ⊢
    obtain ⟨e1, e2, -⟩ := plZ_c hR hwR.1 h
    unfold apZ absZ
    rw [e1, e2]
    (repeat' split) <;> omega
  · rw [aftZ_2] at h ⊢
    obtain ⟨e1, e2, -⟩ := plZ_c hR (by omega) h
    unfold apZ absZ
    rw [e1, e2]
    (repeat' split) <;> omega
  · rw [aftZ_3] at h ⊢
    obtain ⟨e1, e2, -⟩ := plZ_c hR hwL.1 h
    unfold apZ absZ
    rw [e1, e2]
    (repeat' split) <;> omega
theorem aftZ_pl {C R np : Int} {N : Int → Int} {gn : Nat → Int} (hF : FlOK C R np N gn) {a d : Int} (ha : PlOK R a) (h : aftZ C R N a d ≠ -1) : PlOK R (aftZ C R N a d) := (aftZ_ok hF ha).elim (fun z => absurd z h) id
theorem wkZ_ap {C R np : Int} {N : Int → Int} {gn : Nat → Int} (hF : FlOK C R np N gn) : ∀ (k : Nat) (a b : Int), PlOK R a → wkZ C R N k a b → apZ a b ≤ k := by
  intro k
  induction k with
  | zero =>
    intro a b ha h
    have h : a = b := h
    subst h
    unfold apZ absZ
    (repeat' split) <;> omega
  | succ k ih =>
    intro a b ha h
    obtain ⟨d, h0, h1, h2, h3⟩ := h
    have e1 := aftZ_ap hF (b := b) ha h0 h1 h2
    have e2 := ih _ b (aftZ_pl hF ha h2) h3
    omega
/-- the fewest steps, up to a number of them, of all walks to a goal that have made some steps -/
def FW (C R : Int) (N : Int → Int) (u v md mo r : Int) : Prop := r ≤ mo + 1 ∧ (u ≠ -1 → ∀ k : Nat, wkZ C R N k u v → r ≤ md + k) ∧ (r = mo + 1 ∨ (u ≠ -1 ∧ ∃ k : Nat, wkZ C R N k u v ∧ r = md + k)) ∧ (mo + 1 ≤ r ∨ md ≤ r)
theorem FW_none {C R : Int} {N : Int → Int} {u v md mo : Int} (h : u = -1) : FW C R N u v md mo (mo + 1) := ⟨Int.le_refl _, fun z => absurd h z, Or.inl rfl, Or.inl (Int.le_refl _)⟩
theorem FW_far {C R np : Int} {N : Int → Int} {gn : Nat → Int} (hF : FlOK C R np N gn) {u v md mo : Int} (hu : PlOK R u) (h : mo < md + apZ u v) : FW C R N u v md mo (mo + 1) :=
  ⟨Int.le_refl _, fun _ k hk => by have := wkZ_ap hF k u v hu hk; omega, Or.inl rfl, Or.inl (Int.le_refl _)⟩
theorem FW_here {C R : Int} {N : Int → Int} {u v md mo : Int} (h : u = v) (hu : u ≠ -1) (hm : md ≤ mo + 1) : FW C R N u v md mo md :=
  ⟨hm, fun _ k _ => by omega, Or.inr ⟨hu, 0, h, by omega⟩, Or.inr (Int.le_refl _)⟩
theorem FW_4 {C R : Int} {N : Int → Int} {u v md mo f1 f2 f3 f4 : Int} (hu : u ≠ -1) (hv : u ≠ v) (h1 : FW C R N (aftZ C R N u 0) v (md + 1) (mo + 1 - 1) f1) (h2 : FW C R N (aftZ C R N u 1) v (md + 1) (f1 - 1) f2) (h3 : FW C R N (aftZ C R N u 2) v (md + 1) (f2 - 1) f3) (h4 : FW C R N (aftZ C R N u 3) v (md + 1) (f3 - 1) f4) (hm : md ≤ mo) : FW C R N u v md mo f4 := by
  obtain ⟨a1, b1, c1, d1⟩ := h1
  obtain ⟨a2, b2, c2, d2⟩ := h2
  obtain ⟨a3, b3, c3, d3⟩ := h3
  obtain ⟨a4, b4, c4, d4⟩ := h4
  replace c1 := fun (_ : Unit) => c1
  replace c2 := fun (_ : Unit) => c2
  replace c3 := fun (_ : Unit) => c3
  replace c4 := fun (_ : Unit) => c4
  have k4 : f4 ≤ mo + 1 ∧ f4 ≤ f1 ∧ f4 ≤ f2 ∧ f4 ≤ f3 := ⟨by omega, by omega, by omega, by omega⟩
  have k5 : mo + 1 ≤ f4 ∨ md ≤ f4 := by omega
  refine ⟨k4.1, ?_, ?_, k5⟩
  · intro _ k hk
    cases k with
    | zero => exact absurd hk hv
    | succ k =>
      obtain ⟨d, g0, g1, g2, g3⟩ := hk
      have hd4 : d = 0 ∨ d = 1 ∨ d = 2 ∨ d = 3 := by omega
      have hk1 : ((k + 1 : Nat) : Int) = (k : Int) + 1 := by omega
      rw [hk1]
      rcases hd4 with rfl | rfl | rfl | rfl
      · have := b1 g2 k g3; omega
      · have := b2 g2 k g3; omega
      · have := b3 g2 k g3; omega
      · have := b4 g2 k g3; omega
  · have go : ∀ (d : Int) (k : Nat), 0 ≤ d → d ≤ 3 → aftZ C R N u d ≠ -1 → wkZ C R N k (aftZ C R N u d) v → f4 = md + 1 + k → f4 = mo + 1 ∨ (u ≠ -1 ∧ ∃ k : Nat, wkZ C R N k u v ∧ f4 = md + k) :=
      fun d k g0 g1 g2 g3 g4 => Or.inr ⟨hu, k + 1, ⟨d, g0, g1, g2, g3⟩, by omega⟩
    rcases c4 () with q4 | ⟨e4, k, g3, g4⟩
    · rcases c3 () with q3 | ⟨e3, k, g3, g4⟩
      · rcases c2 () with q2 | ⟨e2, k, g3, g4⟩
        · rcases c1 () with q1 | ⟨e1, k, g3, g4⟩
          · exact Or.inl (by omega)
          · exact go 0 k (by omega) (by omega) e1 g3 (by omega)
        · exact go 1 k (by omega) (by omega) e2 g3 (by omega)
      · exact go 2 k (by omega) (by omega) e3 g3 (by omega)
    · exact go 3 k (by omega) (by omega) e4 g3 g4
end
section
set_option maxRecDepth 100000 in
set_option maxHeartbeats 4000000 in
theorem c_X2_fewestByTrying (l : Launch) (D : va_G) (cI cJ : ClassId) (fl pn : Nat) (C R np : Int) (gn : Nat → Int) (N : Int → Int) (hF : FlOK C R np N gn) : ∀ (n : Nat) (u v md mo : Int) (hu : u = -1 ∨ PlOK R u) (hv : PlOK R v) (hm0 : 0 ≤ md) (hm1 : md ≤ mo + 1) (hm2 : mo ≤ 60) (hm3 : mo < md + (n : Int)), PM l yX2_fewestByTrying (.code yX2_fewestByTrying cX2_fewestByTrying 7 (some .int)) (5 + n) [.ref fl, .int (iI u), .int (iI v), .int (iI md), .int (iI mo)] D cI cJ [(fl, .inr (0, [.int (iI C), .int (iI R), .ref pn, .int (iI np)])), (pn, .inl (cI, 49, .inl (aI gn)))] (FW C R N u v md mo) := by
  obtain ⟨hC1, hC2, hR1, hR2, hp1, hp2, -, -⟩ := id hF
  intro n
  induction n using Nat.strongRecOn with
  | ind n ih =>
  intro u v md mo hu hv hm0 hm1 hm2 hm3
  refine PM_of (by decide) rfl (Nat.le_of_ble_eq_true rfl) (fun p e s m below meth c ls hx hb hr hts hown hlk hml hK hP hl => ?_)
  have hl : lv_has ls 7 [(0, .ref fl), (1, .int (iI u)), (2, .int (iI v)), (3, .int (iI md)), (4, .int (iI mo))] := hl
  refine lv_iload_n hx hb dX2_fewestByTrying_0 rfl (lv_at hl 1 rfl) ?_
  refine zv_iconst hx hb dX2_fewestByTrying_1 ?_
  refine zv_icmp_eq hx hb dX2_fewestByTrying_2 (tgt := 23) (by decide) ⟨by rcases hu with h | ⟨h, h2, -⟩ <;> omega, by rcases hu with h | ⟨h, h2, -⟩ <;> omega⟩ ⟨by omega, by omega⟩ (fun c_1 => ?_) (fun c_1 => ?_)
  · refine lv_iload hx hb dX2_fewestByTrying_23 (lv_at hl 4 rfl) ?_
    refine zv_iconst hx hb dX2_fewestByTrying_25 ?_
    refine zv_iadd hx hb dX2_fewestByTrying_26 ?_
    exact PM_iret hx hb hr hlk dX2_fewestByTrying_27 (by first | exact FW_none (by assumption) | exact FW_far hF ⟨hu0, hu1, hu2⟩ (by omega) | exact FW_here (by assumption) (by omega) (by omega) | exact FW_4 (by omega) (by assumption) g1 g2 g3 g4 (by omega))
  · refine lv_iload_n hx hb dX2_fewestByTrying_5 rfl (lv_at hl 3 rfl) ?_
    rcases hu with hu | hu
    · exact absurd hu (by assumption)
    obtain ⟨hu0, hu1, hu2⟩ := id hu
    obtain ⟨hv0, hv1, hv2⟩ := id hv
    refine lv_iload_n hx hb dX2_fewestByTrying_6 rfl (lv_at hl 1 rfl) ?_
    refine zc_S (As := [.int (iI u)]) (rest := [.int (iI md)]) (ws := [(fl, .inr (0, [.int (iI C), .int (iI R), .ref pn, .int (iI np)])), (pn, .inl (cI, 49, .inl (aI gn)))]) (n := 1) hx hb (hml.trans hl.1.symm) hts hown hK hP (c_X2_squareOf l D cI cJ u (by omega) (by omega)) (gd_S q_183 q_102 q_1 q_103) (by decide +kernel) rfl ⟨by simp only [lvl]; omega, by simp only [lvl]; omega⟩ ⟨Nat.zero_le _, Nat.zero_le _⟩ [] rfl rfl (Nat.le_of_ble_eq_true rfl) dX2_fewestByTrying_7 (fun r_2 hr_2 => ?_)
    subst hr_2
    refine lv_iload_n hx hb dX2_fewestByTrying_10 rfl (lv_at hl 2 rfl) ?_
    refine zc_S (As := [.int (iI v)]) (rest := [.int (iI (u / 343)), .int (iI md)]) (ws := [(fl, .inr (0, [.int (iI C), .int (iI R), .ref pn, .int (iI np)])), (pn, .inl (cI, 49, .inl (aI gn)))]) (n := 1) hx hb (hml.trans hl.1.symm) hts hown hK hP (c_X2_squareOf l D cI cJ v (by omega) (by omega)) (gd_S q_183 q_102 q_1 q_103) (by decide +kernel) rfl ⟨by simp only [lvl]; omega, by simp only [lvl]; omega⟩ ⟨Nat.zero_le _, Nat.zero_le _⟩ [] rfl rfl (Nat.le_of_ble_eq_true rfl) dX2_fewestByTrying_11 (fun r_3 hr_3 => ?_)
    subst hr_3
    refine zc_S (As := [.int (iI (u / 343)), .int (iI (v / 343))]) (rest := [.int (iI md)]) (ws := [(fl, .inr (0, [.int (iI C), .int (iI R), .ref pn, .int (iI np)])), (pn, .inl (cI, 49, .inl (aI gn)))]) (n := 2) hx hb (hml.trans hl.1.symm) hts hown hK hP (c_X2_apart l D cI cJ (u / 343) (v / 343) (by omega) (by omega) (by omega) (by omega)) (gd_S q_441 q_442 q_1 q_443) (by decide +kernel) rfl ⟨by simp only [lvl]; omega, by simp only [lvl]; omega⟩ ⟨Nat.zero_le _, Nat.zero_le _⟩ [] rfl rfl (Nat.le_of_ble_eq_true rfl) dX2_fewestByTrying_14 (fun r_4 hr_4 => ?_)
    subst hr_4
    have hap : 0 ≤ apZ u v ∧ apZ u v ≤ 100 := by unfold apZ absZ; (repeat' split) <;> omega
    have hap0 : (absZ (u / 343 / 7 - v / 343 / 7) + absZ (u / 343 % 7 - v / 343 % 7)) = apZ u v := rfl
    refine zv_iadd hx hb dX2_fewestByTrying_17 ?_
    refine lv_iload hx hb dX2_fewestByTrying_18 (lv_at hl 4 rfl) ?_
    refine zv_icmp_le hx hb dX2_fewestByTrying_20 (tgt := 28) (by decide) ⟨by omega, by omega⟩ ⟨by omega, by omega⟩ (fun c_5 => ?_) (fun c_5 => ?_)
    · refine lv_iload_n hx hb dX2_fewestByTrying_28 rfl (lv_at hl 1 rfl) ?_
      refine lv_iload_n hx hb dX2_fewestByTrying_29 rfl (lv_at hl 2 rfl) ?_
      refine zv_icmp_ne hx hb dX2_fewestByTrying_30 (tgt := 35) (by decide) ⟨by omega, by omega⟩ ⟨by omega, by omega⟩ (fun c_6 => ?_) (fun c_6 => ?_)
      · obtain ⟨n, rfl⟩ : ∃ n0, n = n0 + 1 := ⟨n - 1, by omega⟩
        refine lv_iload hx hb dX2_fewestByTrying_35 (lv_at hl 4 rfl) ?_
        refine zv_iconst hx hb dX2_fewestByTrying_37 ?_
        refine zv_iadd hx hb dX2_fewestByTrying_38 ?_
        refine lv_istore (lv' := [(5, .int (iI (mo + 1))), (0, .ref fl), (1, .int (iI u)), (2, .int (iI v)), (3, .int (iI md)), (4, .int (iI mo))]) hx hb dX2_fewestByTrying_39 hl (by decide) rfl (fun ls hl => ?_)
        refine zv_iconst hx hb dX2_fewestByTrying_41 ?_
        refine lv_istore (lv' := [(6, .int (iI 0)), (5, .int (iI (mo + 1))), (0, .ref fl), (1, .int (iI u)), (2, .int (iI v)), (3, .int (iI md)), (4, .int (iI mo))]) hx hb dX2_fewestByTrying_42 hl (by decide) rfl (fun ls hl => ?_)
        refine lv_iload hx hb dX2_fewestByTrying_44 (lv_at hl 0 rfl) ?_
        refine zv_iconst hx hb dX2_fewestByTrying_46 ?_
        refine zv_icmp_ge hx hb dX2_fewestByTrying_47 (tgt := 77) (by decide) ⟨by omega, by omega⟩ ⟨by omega, by omega⟩ (fun c_7 => by exfalso; omega) (fun c_7 => ?_)
        refine lv_aload_n hx hb dX2_fewestByTrying_50 rfl (lv_at hl 2 rfl) ?_
        refine lv_aload_n hx hb dX2_fewestByTrying_51 rfl (lv_at hl 2 rfl) ?_
        refine lv_iload_n hx hb dX2_fewestByTrying_52 rfl (lv_at hl 3 rfl) ?_
        refine lv_iload hx hb dX2_fewestByTrying_53 (lv_at hl 0 rfl) ?_
        refine zc_V (As := [.int (iI u), .int (iI 0)]) (rest := [.ref fl]) (ws := [(fl, .inr (0, [.int (iI C), .int (iI R), .ref pn, .int (iI np)])), (pn, .inl (cI, 49, .inl (aI gn)))]) (n := 2) hx hb (hml.trans hl.1.symm) hts hown hK hP (c_X0_after l D cI cJ fl pn C R np gn N u 0 hF (by omega) (by omega) (by omega) (by omega) (by omega)) (gd_V q_97 q_98 q_99 q_3 q_100) (by decide +kernel) rfl ⟨by simp only [lvl]; omega, by simp only [lvl]; omega⟩ ⟨Nat.zero_le _, Nat.zero_le _⟩ [0, 1] rfl 0 (ci := 0) rfl rfl rfl rfl (Nat.le_of_ble_eq_true rfl) dX2_fewestByTrying_55 (fun r_8 hr_8 => ?_)
        subst hr_8
        refine lv_iload_n hx hb dX2_fewestByTrying_58 rfl (lv_at hl 4 rfl) ?_
        refine lv_iload_n hx hb dX2_fewestByTrying_59 rfl (lv_at hl 5 rfl) ?_
        refine zv_iconst hx hb dX2_fewestByTrying_60 ?_
        refine zv_iadd hx hb dX2_fewestByTrying_61 ?_
        refine lv_iload hx hb dX2_fewestByTrying_62 (lv_at hl 1 rfl) ?_
        refine zv_iconst hx hb dX2_fewestByTrying_64 ?_
        refine zv_isub hx hb dX2_fewestByTrying_65 ?_
        refine zc_S (As := [.ref fl, .int (iI (aftZ C R N u 0)), .int (iI v), .int (iI (md + 1)), .int (iI ((mo + 1) - 1))]) (rest := []) (ws := [(fl, .inr (0, [.int (iI C), .int (iI R), .ref pn, .int (iI np)])), (pn, .inl (cI, 49, .inl (aI gn)))]) (n := 5) hx hb (hml.trans hl.1.symm) hts hown hK hP (ih n (by omega) (aftZ C R N u 0) v (md + 1) (mo + 1 - 1) (aftZ_ok hF ⟨hu0, hu1, hu2⟩) hv (by omega) (by omega) (by omega) (by omega)) (gd_S q_438 q_439 q_1 q_440) (by decide +kernel) rfl ⟨by simp only [lvl]; omega, by simp only [lvl]; omega⟩ ⟨Nat.zero_le _, Nat.zero_le _⟩ [0, 1] rfl rfl (Nat.le_of_ble_eq_true rfl) dX2_fewestByTrying_66 (fun r_9 hr_9 => ?_)
        obtain ⟨f1, rfl⟩ : ∃ f : Int, f = r_9 := ⟨_, rfl⟩
        have g1 := hr_9
        obtain ⟨ga1, -, -, gd1⟩ := id hr_9
        refine lv_istore (lv' := [(5, .int (iI f1)), (6, .int (iI 0)), (0, .ref fl), (1, .int (iI u)), (2, .int (iI v)), (3, .int (iI md)), (4, .int (iI mo))]) hx hb dX2_fewestByTrying_69 hl (by decide) rfl (fun ls hl => ?_)
        refine zv_iinc (k := 1) (lv' := [(6, .int (iI 1)), (5, .int (iI f1)), (0, .ref fl), (1, .int (iI u)), (2, .int (iI v)), (3, .int (iI md)), (4, .int (iI mo))]) hx hb dX2_fewestByTrying_71 hl rfl (by decide) rfl (fun ls hl => ?_)
        refine lv_goto (tgt := 44) hx hb dX2_fewestByTrying_74 (by decide) ?_
        refine lv_iload hx hb dX2_fewestByTrying_44 (lv_at hl 0 rfl) ?_
        refine zv_iconst hx hb dX2_fewestByTrying_46 ?_
        refine zv_icmp_ge hx hb dX2_fewestByTrying_47 (tgt := 77) (by decide) ⟨by omega, by omega⟩ ⟨by omega, by omega⟩ (fun c_10 => by exfalso; omega) (fun c_10 => ?_)
        refine lv_aload_n hx hb dX2_fewestByTrying_50 rfl (lv_at hl 2 rfl) ?_
        refine lv_aload_n hx hb dX2_fewestByTrying_51 rfl (lv_at hl 2 rfl) ?_
        refine lv_iload_n hx hb dX2_fewestByTrying_52 rfl (lv_at hl 3 rfl) ?_
        refine lv_iload hx hb dX2_fewestByTrying_53 (lv_at hl 0 rfl) ?_
        refine zc_V (As := [.int (iI u), .int (iI 1)]) (rest := [.ref fl]) (ws := [(fl, .inr (0, [.int (iI C), .int (iI R), .ref pn, .int (iI np)])), (pn, .inl (cI, 49, .inl (aI gn)))]) (n := 2) hx hb (hml.trans hl.1.symm) hts hown hK hP (c_X0_after l D cI cJ fl pn C R np gn N u 1 hF (by omega) (by omega) (by omega) (by omega) (by omega)) (gd_V q_97 q_98 q_99 q_3 q_100) (by decide +kernel) rfl ⟨by simp only [lvl]; omega, by simp only [lvl]; omega⟩ ⟨Nat.zero_le _, Nat.zero_le _⟩ [0, 1] rfl 0 (ci := 0) rfl rfl rfl rfl (Nat.le_of_ble_eq_true rfl) dX2_fewestByTrying_55 (fun r_11 hr_11 => ?_)
        subst hr_11
        refine lv_iload_n hx hb dX2_fewestByTrying_58 rfl (lv_at hl 4 rfl) ?_
        refine lv_iload_n hx hb dX2_fewestByTrying_59 rfl (lv_at hl 5 rfl) ?_
        refine zv_iconst hx hb dX2_fewestByTrying_60 ?_
        refine zv_iadd hx hb dX2_fewestByTrying_61 ?_
        refine lv_iload hx hb dX2_fewestByTrying_62 (lv_at hl 1 rfl) ?_
        refine zv_iconst hx hb dX2_fewestByTrying_64 ?_
        refine zv_isub hx hb dX2_fewestByTrying_65 ?_
        refine zc_S (As := [.ref fl, .int (iI (aftZ C R N u 1)), .int (iI v), .int (iI (md + 1)), .int (iI (f1 - 1))]) (rest := []) (ws := [(fl, .inr (0, [.int (iI C), .int (iI R), .ref pn, .int (iI np)])), (pn, .inl (cI, 49, .inl (aI gn)))]) (n := 5) hx hb (hml.trans hl.1.symm) hts hown hK hP (ih n (by omega) (aftZ C R N u 1) v (md + 1) (f1 - 1) (aftZ_ok hF ⟨hu0, hu1, hu2⟩) hv (by omega) (by omega) (by omega) (by omega)) (gd_S q_438 q_439 q_1 q_440) (by decide +kernel) rfl ⟨by simp only [lvl]; omega, by simp only [lvl]; omega⟩ ⟨Nat.zero_le _, Nat.zero_le _⟩ [0, 1] rfl rfl (Nat.le_of_ble_eq_true rfl) dX2_fewestByTrying_66 (fun r_12 hr_12 => ?_)
        obtain ⟨f2, rfl⟩ : ∃ f : Int, f = r_12 := ⟨_, rfl⟩
        have g2 := hr_12
        obtain ⟨ga2, -, -, gd2⟩ := id hr_12
        refine lv_istore (lv' := [(5, .int (iI f2)), (6, .int (iI 1)), (0, .ref fl), (1, .int (iI u)), (2, .int (iI v)), (3, .int (iI md)), (4, .int (iI mo))]) hx hb dX2_fewestByTrying_69 hl (by decide) rfl (fun ls hl => ?_)
        refine zv_iinc (k := 1) (lv' := [(6, .int (iI 2)), (5, .int (iI f2)), (0, .ref fl), (1, .int (iI u)), (2, .int (iI v)), (3, .int (iI md)), (4, .int (iI mo))]) hx hb dX2_fewestByTrying_71 hl rfl (by decide) rfl (fun ls hl => ?_)
        refine lv_goto (tgt := 44) hx hb dX2_fewestByTrying_74 (by decide) ?_
        refine lv_iload hx hb dX2_fewestByTrying_44 (lv_at hl 0 rfl) ?_
        refine zv_iconst hx hb dX2_fewestByTrying_46 ?_
        refine zv_icmp_ge hx hb dX2_fewestByTrying_47 (tgt := 77) (by decide) ⟨by omega, by omega⟩ ⟨by omega, by omega⟩ (fun c_13 => by exfalso; omega) (fun c_13 => ?_)
        refine lv_aload_n hx hb dX2_fewestByTrying_50 rfl (lv_at hl 2 rfl) ?_
        refine lv_aload_n hx hb dX2_fewestByTrying_51 rfl (lv_at hl 2 rfl) ?_
        refine lv_iload_n hx hb dX2_fewestByTrying_52 rfl (lv_at hl 3 rfl) ?_
        refine lv_iload hx hb dX2_fewestByTrying_53 (lv_at hl 0 rfl) ?_
        refine zc_V (As := [.int (iI u), .int (iI 2)]) (rest := [.ref fl]) (ws := [(fl, .inr (0, [.int (iI C), .int (iI R), .ref pn, .int (iI np)])), (pn, .inl (cI, 49, .inl (aI gn)))]) (n := 2) hx hb (hml.trans hl.1.symm) hts hown hK hP (c_X0_after l D cI cJ fl pn C R np gn N u 2 hF (by omega) (by omega) (by omega) (by omega) (by omega)) (gd_V q_97 q_98 q_99 q_3 q_100) (by decide +kernel) rfl ⟨by simp only [lvl]; omega, by simp only [lvl]; omega⟩ ⟨Nat.zero_le _, Nat.zero_le _⟩ [0, 1] rfl 0 (ci := 0) rfl rfl rfl rfl (Nat.le_of_ble_eq_true rfl) dX2_fewestByTrying_55 (fun r_14 hr_14 => ?_)
        subst hr_14
        refine lv_iload_n hx hb dX2_fewestByTrying_58 rfl (lv_at hl 4 rfl) ?_
        refine lv_iload_n hx hb dX2_fewestByTrying_59 rfl (lv_at hl 5 rfl) ?_
        refine zv_iconst hx hb dX2_fewestByTrying_60 ?_
        refine zv_iadd hx hb dX2_fewestByTrying_61 ?_
        refine lv_iload hx hb dX2_fewestByTrying_62 (lv_at hl 1 rfl) ?_
        refine zv_iconst hx hb dX2_fewestByTrying_64 ?_
        refine zv_isub hx hb dX2_fewestByTrying_65 ?_
        refine zc_S (As := [.ref fl, .int (iI (aftZ C R N u 2)), .int (iI v), .int (iI (md + 1)), .int (iI (f2 - 1))]) (rest := []) (ws := [(fl, .inr (0, [.int (iI C), .int (iI R), .ref pn, .int (iI np)])), (pn, .inl (cI, 49, .inl (aI gn)))]) (n := 5) hx hb (hml.trans hl.1.symm) hts hown hK hP (ih n (by omega) (aftZ C R N u 2) v (md + 1) (f2 - 1) (aftZ_ok hF ⟨hu0, hu1, hu2⟩) hv (by omega) (by omega) (by omega) (by omega)) (gd_S q_438 q_439 q_1 q_440) (by decide +kernel) rfl ⟨by simp only [lvl]; omega, by simp only [lvl]; omega⟩ ⟨Nat.zero_le _, Nat.zero_le _⟩ [0, 1] rfl rfl (Nat.le_of_ble_eq_true rfl) dX2_fewestByTrying_66 (fun r_15 hr_15 => ?_)
        obtain ⟨f3, rfl⟩ : ∃ f : Int, f = r_15 := ⟨_, rfl⟩
        have g3 := hr_15
        obtain ⟨ga3, -, -, gd3⟩ := id hr_15
        refine lv_istore (lv' := [(5, .int (iI f3)), (6, .int (iI 2)), (0, .ref fl), (1, .int (iI u)), (2, .int (iI v)), (3, .int (iI md)), (4, .int (iI mo))]) hx hb dX2_fewestByTrying_69 hl (by decide) rfl (fun ls hl => ?_)
        refine zv_iinc (k := 1) (lv' := [(6, .int (iI 3)), (5, .int (iI f3)), (0, .ref fl), (1, .int (iI u)), (2, .int (iI v)), (3, .int (iI md)), (4, .int (iI mo))]) hx hb dX2_fewestByTrying_71 hl rfl (by decide) rfl (fun ls hl => ?_)
        refine lv_goto (tgt := 44) hx hb dX2_fewestByTrying_74 (by decide) ?_
        refine lv_iload hx hb dX2_fewestByTrying_44 (lv_at hl 0 rfl) ?_
        refine zv_iconst hx hb dX2_fewestByTrying_46 ?_
        refine zv_icmp_ge hx hb dX2_fewestByTrying_47 (tgt := 77) (by decide) ⟨by omega, by omega⟩ ⟨by omega, by omega⟩ (fun c_16 => by exfalso; omega) (fun c_16 => ?_)
        refine lv_aload_n hx hb dX2_fewestByTrying_50 rfl (lv_at hl 2 rfl) ?_
        refine lv_aload_n hx hb dX2_fewestByTrying_51 rfl (lv_at hl 2 rfl) ?_
        refine lv_iload_n hx hb dX2_fewestByTrying_52 rfl (lv_at hl 3 rfl) ?_
        refine lv_iload hx hb dX2_fewestByTrying_53 (lv_at hl 0 rfl) ?_
        refine zc_V (As := [.int (iI u), .int (iI 3)]) (rest := [.ref fl]) (ws := [(fl, .inr (0, [.int (iI C), .int (iI R), .ref pn, .int (iI np)])), (pn, .inl (cI, 49, .inl (aI gn)))]) (n := 2) hx hb (hml.trans hl.1.symm) hts hown hK hP (c_X0_after l D cI cJ fl pn C R np gn N u 3 hF (by omega) (by omega) (by omega) (by omega) (by omega)) (gd_V q_97 q_98 q_99 q_3 q_100) (by decide +kernel) rfl ⟨by simp only [lvl]; omega, by simp only [lvl]; omega⟩ ⟨Nat.zero_le _, Nat.zero_le _⟩ [0, 1] rfl 0 (ci := 0) rfl rfl rfl rfl (Nat.le_of_ble_eq_true rfl) dX2_fewestByTrying_55 (fun r_17 hr_17 => ?_)
        subst hr_17
        refine lv_iload_n hx hb dX2_fewestByTrying_58 rfl (lv_at hl 4 rfl) ?_
        refine lv_iload_n hx hb dX2_fewestByTrying_59 rfl (lv_at hl 5 rfl) ?_
        refine zv_iconst hx hb dX2_fewestByTrying_60 ?_
        refine zv_iadd hx hb dX2_fewestByTrying_61 ?_
        refine lv_iload hx hb dX2_fewestByTrying_62 (lv_at hl 1 rfl) ?_
        refine zv_iconst hx hb dX2_fewestByTrying_64 ?_
        refine zv_isub hx hb dX2_fewestByTrying_65 ?_
        refine zc_S (As := [.ref fl, .int (iI (aftZ C R N u 3)), .int (iI v), .int (iI (md + 1)), .int (iI (f3 - 1))]) (rest := []) (ws := [(fl, .inr (0, [.int (iI C), .int (iI R), .ref pn, .int (iI np)])), (pn, .inl (cI, 49, .inl (aI gn)))]) (n := 5) hx hb (hml.trans hl.1.symm) hts hown hK hP (ih n (by omega) (aftZ C R N u 3) v (md + 1) (f3 - 1) (aftZ_ok hF ⟨hu0, hu1, hu2⟩) hv (by omega) (by omega) (by omega) (by omega)) (gd_S q_438 q_439 q_1 q_440) (by decide +kernel) rfl ⟨by simp only [lvl]; omega, by simp only [lvl]; omega⟩ ⟨Nat.zero_le _, Nat.zero_le _⟩ [0, 1] rfl rfl (Nat.le_of_ble_eq_true rfl) dX2_fewestByTrying_66 (fun r_18 hr_18 => ?_)
        obtain ⟨f4, rfl⟩ : ∃ f : Int, f = r_18 := ⟨_, rfl⟩
        have g4 := hr_18
        obtain ⟨ga4, -, -, gd4⟩ := id hr_18
        refine lv_istore (lv' := [(5, .int (iI f4)), (6, .int (iI 3)), (0, .ref fl), (1, .int (iI u)), (2, .int (iI v)), (3, .int (iI md)), (4, .int (iI mo))]) hx hb dX2_fewestByTrying_69 hl (by decide) rfl (fun ls hl => ?_)
        refine zv_iinc (k := 1) (lv' := [(6, .int (iI 4)), (5, .int (iI f4)), (0, .ref fl), (1, .int (iI u)), (2, .int (iI v)), (3, .int (iI md)), (4, .int (iI mo))]) hx hb dX2_fewestByTrying_71 hl rfl (by decide) rfl (fun ls hl => ?_)
        refine lv_goto (tgt := 44) hx hb dX2_fewestByTrying_74 (by decide) ?_
        refine lv_iload hx hb dX2_fewestByTrying_44 (lv_at hl 0 rfl) ?_
        refine zv_iconst hx hb dX2_fewestByTrying_46 ?_
        refine zv_icmp_ge hx hb dX2_fewestByTrying_47 (tgt := 77) (by decide) ⟨by omega, by omega⟩ ⟨by omega, by omega⟩ (fun c_19 => ?_) (fun c_19 => by exfalso; omega)
        refine lv_iload hx hb dX2_fewestByTrying_77 (lv_at hl 1 rfl) ?_
        exact PM_iret hx hb hr hlk dX2_fewestByTrying_79 (by first | exact FW_none (by assumption) | exact FW_far hF ⟨hu0, hu1, hu2⟩ (by omega) | exact FW_here (by assumption) (by omega) (by omega) | exact FW_4 (by omega) (by assumption) g1 g2 g3 g4 (by omega))
      · refine lv_iload_n hx hb dX2_fewestByTrying_33 rfl (lv_at hl 3 rfl) ?_
        exact PM_iret hx hb hr hlk dX2_fewestByTrying_34 (by first | exact FW_none (by assumption) | exact FW_far hF ⟨hu0, hu1, hu2⟩ (by omega) | exact FW_here (by assumption) (by omega) (by omega) | exact FW_4 (by omega) (by assumption) g1 g2 g3 g4 (by omega))
    · refine lv_iload hx hb dX2_fewestByTrying_23 (lv_at hl 4 rfl) ?_
      refine zv_iconst hx hb dX2_fewestByTrying_25 ?_
      refine zv_iadd hx hb dX2_fewestByTrying_26 ?_
      exact PM_iret hx hb hr hlk dX2_fewestByTrying_27 (by first | exact FW_none (by assumption) | exact FW_far hF ⟨hu0, hu1, hu2⟩ (by omega) | exact FW_here (by assumption) (by omega) (by omega) | exact FW_4 (by omega) (by assumption) g1 g2 g3 g4 (by omega))
end
section
/-! the reference's pillars: columns and rows by number -/
def MdOK (C R np : Int) (N : Int → Int) (gc gr : Nat → Int) : Prop := 3 ≤ C ∧ C ≤ 7 ∧ 3 ≤ R ∧ R ≤ 7 ∧ 0 ≤ np ∧ np ≤ 3 ∧ (∀ k : Nat, (k : Int) < np → 0 ≤ gc k ∧ gc k < C ∧ 0 ≤ gr k ∧ gr k < R ∧ N (gc k * 7 + gr k) = k) ∧ ∀ z : Int, N z = -1 ∨ (0 ≤ N z ∧ N z < np ∧ z = gc (N z).toNat * 7 + gr (N z).toNat)
theorem MdOK.at {C R np : Int} {N : Int → Int} {gc gr : Nat → Int} (h : MdOK C R np N gc gr) {i : Int} (h0 : 0 ≤ i) (h1 : i < np) : 0 ≤ gc i.toNat ∧ gc i.toNat < C ∧ 0 ≤ gr i.toNat ∧ gr i.toNat < R ∧ N (gc i.toNat * 7 + gr i.toNat) = i := by
  have h2 := h.2.2.2.2.2.2.1 i.toNat (by rw [Int.toNat_of_nonneg h0]; exact h1)
  rw [Int.toNat_of_nonneg h0] at h2
  exact h2
theorem MdOK.of {C R np : Int} {N : Int → Int} {gc gr : Nat → Int} (h : MdOK C R np N gc gr) (z : Int) : N z = -1 ∨ (0 ≤ N z ∧ N z < np ∧ z = gc (N z).toNat * 7 + gr (N z).toNat) := h.2.2.2.2.2.2.2 z
theorem MdOK.N2 {C R np : Int} {N : Int → Int} {gc gr : Nat → Int} (h : MdOK C R np N gc gr) (z : Int) : -1 ≤ N z ∧ N z < np := by
  have h5 := h.2.2.2.2.1
  rcases h.of z with h1 | h1 <;> omega
theorem MdOK.Fl {C R np : Int} {N : Int → Int} {gc gr : Nat → Int} (h : MdOK C R np N gc gr) : FlOK C R np N (fun k => N (k : Int)) := by
  obtain ⟨h1, h2, h3, h4, h5, h6, h7, h8⟩ := id h
  refine ⟨h1, h2, h3, h4, h5, h6, fun k _ => rfl, fun z => ?_⟩
  rcases h8 z with g | ⟨g1, g2, g3⟩
  · exact Or.inl g
  · have := h.at g1 g2
    exact Or.inr (by omega)
theorem wj_m1 {w k : Int} (hw : 0 ≤ w) (hk : 0 ≤ k) (hk5 : k ≤ 5) (h : w % 7 ≤ 0) : 7 * w + k + 1 = wjZ w k := by
  have := oppZ_b hk hk5
  unfold wjZ
  rw [if_neg (by omega)]
  omega
theorem wj_m2 {w k : Int} (hw : 0 ≤ w) (hk : 0 ≤ k) (hk5 : k ≤ 5) (h : ¬ w % 7 ≤ 0) (h2 : oppZ (w % 7 - 1) = k) : w / 7 = wjZ w k := by
  unfold wjZ
  rw [if_pos (by rw [← h2, oppZ_opp (by omega) (by omega)])]
theorem wj_m3 {w k : Int} (hw : 0 ≤ w) (hk : 0 ≤ k) (hk5 : k ≤ 5) (h : ¬ w % 7 ≤ 0) (h2 : ¬ oppZ (w % 7 - 1) = k) : 7 * w + k + 1 = wjZ w k := by
  unfold wjZ
  rw [if_neg (fun z => h2 (by rw [z, oppZ_opp hk hk5]))]
  omega
/-- the search for the uppermost pillar below row b in column a, i of them looked at -/
def BelI (gc gr : Nat → Int) (a b i x : Int) : Prop := (x = -1 ∧ ∀ j : Nat, (j : Int) < i → ¬ (gc j = a ∧ b < gr j)) ∨ (0 ≤ x ∧ x < i ∧ gc x.toNat = a ∧ b < gr x.toNat ∧ ∀ j : Nat, (j : Int) < i → gc j = a → b < gr j → gr x.toNat ≤ gr j)
theorem BelI.z {gc gr : Nat → Int} {a b : Int} : BelI gc gr a b 0 (-1) := Or.inl ⟨rfl, fun j h => absurd h (by omega)⟩
theorem BelI.b {gc gr : Nat → Int} {a b i x : Int} (h : BelI gc gr a b i x) : x = -1 ∨ (0 ≤ x ∧ x < i) := by
  rcases h with ⟨h, -⟩ | ⟨h1, h2, -⟩
  · exact Or.inl h
  · exact Or.inr ⟨h1, h2⟩
theorem jlt {i : Int} (h0 : 0 ≤ i) {j : Nat} (h : (j : Int) < i + 1) : (j : Int) < i ∨ j = i.toNat := by omega
theorem BelI.no {gc gr : Nat → Int} {a b i x : Int} (h : BelI gc gr a b i x) (h0 : 0 ≤ i) (hn : ¬ (gc i.toNat = a ∧ b < gr i.toNat)) : BelI gc gr a b (i + 1) x := by
  rcases h with ⟨h1, h2⟩ | ⟨h1, h2, h3, h4, h5⟩
  · refine Or.inl ⟨h1, fun j hj => ?_⟩
    rcases jlt h0 hj with g | rfl
    · exact h2 j g
    · exact hn
  · refine Or.inr ⟨h1, by omega, h3, h4, fun j hj e1 e2 => ?_⟩
    rcases jlt h0 hj with g | rfl
    · exact h5 j g e1 e2
    · exact absurd ⟨e1, e2⟩ hn
theorem BelI.new {gc gr : Nat → Int} {a b i x : Int} (h : BelI gc gr a b i x) (h0 : 0 ≤ i) (hy1 : gc i.toNat = a) (hy2 : b < gr i.toNat) (hx : x = -1 ∨ gr i.toNat < gr x.toNat) : BelI gc gr a b (i + 1) i := by
  refine Or.inr ⟨h0, by omega, hy1, hy2, fun j hj e1 e2 => ?_⟩
  rcases jlt h0 hj with g | rfl
  · rcases h with ⟨h1, h2⟩ | ⟨h1, h2, h3, h4, h5⟩
    · exact absurd ⟨e1, e2⟩ (h2 j g)
    · have := h5 j g e1 e2
      rcases hx with hx | hx <;> omega
  · exact Int.le_refl _
theorem BelI.old {gc gr : Nat → Int} {a b i x : Int} (h : BelI gc gr a b i x) (h0 : 0 ≤ i) (hx : ¬ x = -1) (hy : ¬ gr i.toNat < gr x.toNat) : BelI gc gr a b (i + 1) x := by
  rcases h with ⟨h1, h2⟩ | ⟨h1, h2, h3, h4, h5⟩
  · exact absurd h1 hx
  · refine Or.inr ⟨h1, by omega, h3, h4, fun j hj e1 e2 => ?_⟩
    rcases jlt h0 hj with g | rfl
    · exact h5 j g e1 e2
    · omega
def AbvI (gc gr : Nat → Int) (a b v i x : Int) : Prop := (x = -1 ∧ ∀ j : Nat, (j : Int) < i → ¬ (gc j = a ∧ b < gr j ∧ gr j < v)) ∨ (0 ≤ x ∧ x < i ∧ gc x.toNat = a ∧ b < gr x.toNat ∧ gr x.toNat < v ∧ ∀ j : Nat, (j : Int) < i → gc j = a → b < gr j → gr j < v → gr j ≤ gr x.toNat)
theorem AbvI.z {gc gr : Nat → Int} {a b v : Int} : AbvI gc gr a b v 0 (-1) := Or.inl ⟨rfl, fun j h => absurd h (by omega)⟩
theorem AbvI.b {gc gr : Nat → Int} {a b v i x : Int} (h : AbvI gc gr a b v i x) : x = -1 ∨ (0 ≤ x ∧ x < i) := by
  rcases h with ⟨h, -⟩ | ⟨h1, h2, -⟩
  · exact Or.inl h
  · exact Or.inr ⟨h1, h2⟩
theorem AbvI.no {gc gr : Nat → Int} {a b v i x : Int} (h : AbvI gc gr a b v i x) (h0 : 0 ≤ i) (hn : ¬ (gc i.toNat = a ∧ b < gr i.toNat ∧ gr i.toNat < v)) : AbvI gc gr a b v (i + 1) x := by
  rcases h with ⟨h1, h2⟩ | ⟨h1, h2, h3, h4, h6, h5⟩
  · refine Or.inl ⟨h1, fun j hj => ?_⟩
    rcases jlt h0 hj with g | rfl
    · exact h2 j g
    · exact hn
  · refine Or.inr ⟨h1, by omega, h3, h4, h6, fun j hj e1 e2 e3 => ?_⟩
    rcases jlt h0 hj with g | rfl
    · exact h5 j g e1 e2 e3
    · exact absurd ⟨e1, e2, e3⟩ hn
theorem AbvI.new {gc gr : Nat → Int} {a b v i x : Int} (h : AbvI gc gr a b v i x) (h0 : 0 ≤ i) (hy1 : gc i.toNat = a) (hy2 : b < gr i.toNat) (hy3 : gr i.toNat < v) (hx : x = -1 ∨ gr x.toNat < gr i.toNat) : AbvI gc gr a b v (i + 1) i := by
  refine Or.inr ⟨h0, by omega, hy1, hy2, hy3, fun j hj e1 e2 e3 => ?_⟩
  rcases jlt h0 hj with g | rfl
  · rcases h with ⟨h1, h2⟩ | ⟨h1, h2, h3, h4, h6, h5⟩
    · exact absurd ⟨e1, e2, e3⟩ (h2 j g)
    · have := h5 j g e1 e2 e3
      rcases hx with hx | hx <;> omega
  · exact Int.le_refl _
theorem AbvI.old {gc gr : Nat → Int} {a b v i x : Int} (h : AbvI gc gr a b v i x) (h0 : 0 ≤ i) (hx : ¬ x = -1) (hy : ¬ gr x.toNat < gr i.toNat) : AbvI gc gr a b v (i + 1) x := by
  rcases h with ⟨h1, h2⟩ | ⟨h1, h2, h3, h4, h6, h5⟩
  · exact absurd h1 hx
  · refine Or.inr ⟨h1, by omega, h3, h4, h6, fun j hj e1 e2 e3 => ?_⟩
    rcases jlt h0 hj with g | rfl
    · exact h5 j g e1 e2 e3
    · omega
/-- what is found: the next pillar below row b (before row v) in column a, by the squares -/
def BelP (N : Int → Int) (gr : Nat → Int) (R np a b x : Int) : Prop := (x = -1 ∧ ∀ y, b < y → y < R → N (a * 7 + y) = -1) ∨ (0 ≤ x ∧ x < np ∧ ∃ y, b < y ∧ y < R ∧ N (a * 7 + y) = x ∧ gr x.toNat = y ∧ ∀ y', b < y' → y' < y → N (a * 7 + y') = -1)
theorem BelI.p {C R np : Int} {N : Int → Int} {gc gr : Nat → Int} (hM : MdOK C R np N gc gr) {a b x : Int} (ha0 : 0 ≤ a) (ha : a < C) (hb : 0 ≤ b) (h : BelI gc gr a b np x) : BelP N gr R np a b x := by
  have hR := hM.2.2.2.1
  have key : ∀ y, 0 ≤ y → y < R → N (a * 7 + y) ≠ -1 → ∃ j : Nat, (j : Int) < np ∧ gc j = a ∧ gr j = y := by
    intro y y0 y1 hy
    rcases hM.of (a * 7 + y) with g | ⟨g1, g2, g3⟩
    · exact absurd g hy
    · have g4 := hM.at g1 g2
      exact ⟨(N (a * 7 + y)).toNat, by omega, by omega, by omega⟩
  rcases h with ⟨h1, h2⟩ | ⟨h1, h2, h3, h4, h5⟩
  · refine Or.inl ⟨h1, fun y y0 y1 => ?_⟩
    by_cases hy : N (a * 7 + y) = -1
    · exact hy
    · obtain ⟨j, j1, j2, j3⟩ := key y (by omega) y1 hy
      exact absurd ⟨j2, by omega⟩ (h2 j j1)
  · have g4 := hM.at h1 h2
    rw [h3] at g4
    refine Or.inr ⟨h1, h2, gr x.toNat, h4, g4.2.2.2.1, g4.2.2.2.2, rfl, fun y y0 y1 => ?_⟩
    by_cases hy : N (a * 7 + y) = -1
    · exact hy
    · obtain ⟨j, j1, j2, j3⟩ := key y (by omega) (by omega) hy
      have := h5 j j1 j2 (by omega)
      omega
def AbvP (N : Int → Int) (gr : Nat → Int) (np a b v x : Int) : Prop := (x = -1 ∧ ∀ y, b < y → y < v → N (a * 7 + y) = -1) ∨ (0 ≤ x ∧ x < np ∧ ∃ y, b < y ∧ y < v ∧ N (a * 7 + y) = x ∧ gr x.toNat = y ∧ ∀ y', y < y' → y' < v → N (a * 7 + y') = -1)
theorem AbvI.p {C R np : Int} {N : Int → Int} {gc gr : Nat → Int} (hM : MdOK C R np N gc gr) {a b v x : Int} (ha0 : 0 ≤ a) (ha : a < C) (hb : 0 ≤ b) (hv : v ≤ 7) (h : AbvI gc gr a b v np x) : AbvP N gr np a b v x := by
  have hR := hM.2.2.2.1
  have key : ∀ y, 0 ≤ y → y < 7 → N (a * 7 + y) ≠ -1 → ∃ j : Nat, (j : Int) < np ∧ gc j = a ∧ gr j = y := by
    intro y y0 y1 hy
    rcases hM.of (a * 7 + y) with g | ⟨g1, g2, g3⟩
    · exact absurd g hy
    · have g4 := hM.at g1 g2
      exact ⟨(N (a * 7 + y)).toNat, by omega, by omega, by omega⟩
  rcases h with ⟨h1, h2⟩ | ⟨h1, h2, h3, h4, h6, h5⟩
  · refine Or.inl ⟨h1, fun y y0 y1 => ?_⟩
    by_cases hy : N (a * 7 + y) = -1
    · exact hy
    · obtain ⟨j, j1, j2, j3⟩ := key y (by omega) (by omega) hy
      exact absurd ⟨j2, by omega, by omega⟩ (h2 j j1)
  · have g4 := hM.at h1 h2
    rw [h3] at g4
    refine Or.inr ⟨h1, h2, gr x.toNat, h4, h6, g4.2.2.2.2, rfl, fun y y0 y1 => ?_⟩
    by_cases hy : N (a * 7 + y) = -1
    · exact hy
    · obtain ⟨j, j1, j2, j3⟩ := key y (by omega) (by omega) hy
      have := h5 j j1 j2 (by omega) (by omega)
      omega
/-- rows without pillars change no word -/
theorem wRn_skip {N : Int → Int} {c b w : Int} {n : Nat} : ∀ k : Nat, (∀ y : Int, b + n ≤ y → y < b + n + k → N (c * 7 + y) = -1) → wRn N c (n + k) b w = wRn N c n b w := by
  intro k
  induction k with
  | zero => intro _; rfl
  | succ k ih =>
    intro h
    show stR N c (b + ((n + k : Nat) : Int)) (wRn N c (n + k) b w) = wRn N c n b w
    rw [ih (fun y y0 y1 => h y y0 (by omega))]
    unfold stR
    rw [if_pos (h _ (by omega) (by omega))]
theorem wRn_to {N : Int → Int} {a b u y w : Int} (hu : b ≤ u) (huy : u < y) (hn : ∀ y', u < y' → y' < y → N (a * 7 + y') = -1) (hy : N (a * 7 + y) ≠ -1) : wRn N a (y - b).toNat (b + 1) w = wjZ (wRn N a (u - b).toNat (b + 1) w) (2 * N (a * 7 + y)) := by
  rw [show (y - b).toNat = (u - b).toNat + (y - 1 - u).toNat + 1 by omega]
  show stR N a (b + 1 + (((u - b).toNat + (y - 1 - u).toNat : Nat) : Int)) (wRn N a ((u - b).toNat + (y - 1 - u).toNat) (b + 1) w) = _
  rw [wRn_skip (y - 1 - u).toNat (fun y' h1 h2 => hn y' (by omega) (by omega)), show b + 1 + (((u - b).toNat + (y - 1 - u).toNat : Nat) : Int) = y by omega]
  unfold stR
  rw [if_neg hy]
theorem wRn_end {N : Int → Int} {a b u R w : Int} (hu : b ≤ u) (hR : u < R) (hn : ∀ y', u < y' → y' < R → N (a * 7 + y') = -1) : wRZ N R a b w = wRn N a (u - b).toNat (b + 1) w := by
  unfold wRZ
  rw [show (R - 1 - b).toNat = (u - b).toNat + (R - 1 - u).toNat by omega]
  exact wRn_skip _ (fun y' h1 h2 => hn y' (by omega) (by omega))
theorem wLn_skip {N : Int → Int} {c b : Int} : ∀ (k n : Nat) (w : Int), (∀ y : Int, b + n ≤ y → y < b + n + k → N (c * 7 + y) = -1) → wLn N c (n + k) b w = wLn N c n b w := by
  intro k
  induction k with
  | zero => intro n w _; rfl
  | succ k ih =>
    intro n w h
    show wLn N c (n + k) b (stL N c (b + ((n + k : Nat) : Int)) w) = wLn N c n b w
    rw [show stL N c (b + ((n + k : Nat) : Int)) w = w by unfold stL; rw [if_pos (h _ (by omega) (by omega))]]
    exact ih n w (fun y y0 y1 => h y y0 (by omega))
/-- v: rows from v on are done -/
theorem wLn_to {N : Int → Int} {a b v y w : Int} (hy0 : b < y) (hyv : y < v) (hn : ∀ y', y < y' → y' < v → N (a * 7 + y') = -1) (hy : N (a * 7 + y) ≠ -1) : wLn N a (v - 1 - b).toNat (b + 1) w = wLn N a (y - 1 - b).toNat (b + 1) (wjZ w (oppZ (2 * N (a * 7 + y)))) := by
  rw [show (v - 1 - b).toNat = (y - b).toNat + (v - 1 - y).toNat by omega, wLn_skip _ _ _ (fun y' h1 h2 => hn y' (by omega) (by omega)), show (y - b).toNat = (y - 1 - b).toNat + 1 by omega]
  show wLn N a (y - 1 - b).toNat (b + 1) (stL N a (b + 1 + (((y - 1 - b).toNat : Nat) : Int)) w) = _
  rw [show b + 1 + (((y - 1 - b).toNat : Nat) : Int) = y by omega]
  unfold stL
  rw [if_neg hy]
theorem wLn_end {N : Int → Int} {a b v w : Int} (hn : ∀ y', b < y' → y' < v → N (a * 7 + y') = -1) : wLn N a (v - 1 - b).toNat (b + 1) w = w := by
  have h := wLn_skip (N := N) (c := a) (b := b + 1) (v - 1 - b).toNat 0 w (fun y' h1 h2 => hn y' (by omega) (by omega))
  rw [Nat.zero_add] at h
  exact h
theorem wLZ_7 {C R np : Int} {N : Int → Int} {gc gr : Nat → Int} (hM : MdOK C R np N gc gr) {a b w : Int} (ha0 : 0 ≤ a) (hb : b < R) (hb0 : 0 ≤ b) : wLn N a (7 - 1 - b).toNat (b + 1) w = wLZ N R a b w := by
  have hR := hM.2.2.2.1
  unfold wLZ
  rw [show (7 - 1 - b).toNat = (R - 1 - b).toNat + (7 - R).toNat by omega]
  refine wLn_skip _ _ _ (fun y h1 h2 => ?_)
  rcases hM.of (a * 7 + y) with g | ⟨g1, g2, g3⟩
  · exact g
  · have := hM.at g1 g2
    omega
theorem pw7_mono {i j : Nat} (h : i ≤ j) : pw7 i ≤ pw7 j ∧ 0 < pw7 i := by
  induction h with
  | refl =>
    refine ⟨Int.le_refl _, ?_⟩
    induction i with
    | zero => decide
    | succ i ih => show 0 < 7 * pw7 i; omega
  | step h ih => exact ⟨by show pw7 i ≤ 7 * pw7 _; omega, ih.2⟩
/-- the reference numbers a place by 343 * (7 * row + column) + word -/
def tauZ (z : Int) : Int := (z / 343 % 7 * 7 + z / 343 / 7) * 343 + z % 343
def tM (x : Int) : Int := if x = -1 then -1 else tauZ x
theorem tauZ_of {z : Int} (h0 : 0 ≤ z) (h1 : z < 16807) : 0 ≤ tauZ z ∧ tauZ z < 16807 ∧ tauZ z / 343 / 7 = z / 343 % 7 ∧ tauZ z / 343 % 7 = z / 343 / 7 ∧ tauZ z % 343 = z % 343 ∧ tauZ z / 343 = z / 343 % 7 * 7 + z / 343 / 7 := by
  unfold tauZ
  omega
theorem tauZ_tauZ {z : Int} (h0 : 0 ≤ z) (h1 : z < 16807) : tauZ (tauZ z) = z := by
  obtain ⟨-, -, e1, e2, e3, -⟩ := tauZ_of h0 h1
  show (tauZ z / 343 % 7 * 7 + tauZ z / 343 / 7) * 343 + tauZ z % 343 = z
  rw [e1, e2, e3]
  omega
theorem tM_pl {C R : Int} {N : Int → Int} {a b w : Int} (hC : C ≤ 7) (hR : R ≤ 7) (hw : 0 ≤ w) : tM (plZ C R N a b w) = if w < 343 ∧ 0 ≤ a ∧ a < C ∧ 0 ≤ b ∧ b < R ∧ N (a * 7 + b) = -1 then 343 * (7 * b + a) + w else -1 := by
  unfold plZ
  split
  · rename_i h
    obtain ⟨h1, h2, h3, h4, h5, h6⟩ := h
    unfold tM tauZ
    rw [if_neg (by omega)]
    omega
  · rfl
end
section
/-- the reference's lengths: at a place's number there -/
def MLen (L : Int → Int) (gl : Nat → Int) : Prop := (∀ z : Int, 0 ≤ z → z < 16807 → gl (tauZ z).toNat = L z) ∧ (∀ z : Int, -1 ≤ L z ∧ L z < 20000) ∧ ∀ z : Int, z < 0 ∨ 16807 ≤ z → L z = -1
theorem MLen.b {L : Int → Int} {gl : Nat → Int} (h : MLen L gl) (z : Int) : -1 ≤ L z ∧ L z < 20000 := h.2.1 z
theorem MLen.at {L : Int → Int} {gl : Nat → Int} (h : MLen L gl) {x : Int} (h0 : 0 ≤ x) (h1 : x < 16807) : gl x.toNat = L (tauZ x) := by
  have h2 := tauZ_of h0 h1
  have h3 := h.1 (tauZ x) h2.1 h2.2.1
  rw [tauZ_tauZ h0 h1] at h3
  exact h3
theorem tM_b {y : Int} (hy : y = -1 ∨ (0 ≤ y ∧ y < 16807)) : (tM y = -1 ∧ y = -1) ∨ (0 ≤ tM y ∧ tM y < 16807 ∧ 0 ≤ y ∧ y < 16807 ∧ tM y = tauZ y) := by
  unfold tM
  rcases hy with hy | ⟨h0, h1⟩
  · rw [if_pos hy]
    exact Or.inl ⟨rfl, hy⟩
  · rw [if_neg (by omega)]
    have := tauZ_of h0 h1
    exact Or.inr ⟨this.1, this.2.1, h0, h1, rfl⟩
theorem MLen.tm {L : Int → Int} {gl : Nat → Int} (h : MLen L gl) {y : Int} (hy : y = -1 ∨ (0 ≤ y ∧ y < 16807)) (hn : ¬ tM y = -1) : gl (tM y).toNat = L y := by
  rcases tM_b hy with ⟨h1, -⟩ | ⟨h0, h1, h2, h3, h4⟩
  · exact absurd h1 hn
  · rw [h4]
    exact h.1 y h2 h3
theorem tauZ_ok {R z : Int} (h0 : 0 ≤ z) (h1 : z < 16807) (h2 : z / 343 / 7 < R) : PlOK R (tauZ z) := by
  have := tauZ_of h0 h1
  exact ⟨this.1, this.2.1, by rw [this.2.2.2.1]; exact h2⟩
theorem maf_b {C R np : Int} {N : Int → Int} {gc gr : Nat → Int} (hM : MdOK C R np N gc gr) {x d : Int} (h0 : 0 ≤ x) (h1 : x < 16807) (h2 : x / 343 / 7 < R) : aftZ C R N (tauZ x) d = -1 ∨ (0 ≤ aftZ C R N (tauZ x) d ∧ aftZ C R N (tauZ x) d < 16807) := by
  rcases aftZ_ok hM.Fl (d := d) (tauZ_ok h0 h1 h2) with h | ⟨h, h', -⟩
  · exact Or.inl h
  · exact Or.inr ⟨h, h'⟩
theorem maf_0 {C R : Int} {N : Int → Int} {x : Int} (hC : C ≤ 7) (hR : R ≤ 7) (h0 : 0 ≤ x) (h1 : x < 16807) : tM (aftZ C R N (tauZ x) 0) = if x % 343 < 343 ∧ 0 ≤ x / 343 % 7 ∧ x / 343 % 7 < C ∧ 0 ≤ x / 343 / 7 - 1 ∧ x / 343 / 7 - 1 < R ∧ N (x / 343 % 7 * 7 + (x / 343 / 7 - 1)) = -1 then 343 * (7 * (x / 343 / 7 - 1) + x / 343 % 7) + x % 343 else -1 := by
  obtain ⟨-, -, e1, e2, e3, -⟩ := tauZ_of h0 h1
  rw [aftZ_0, e1, e2, e3, tM_pl hC hR (by omega)]
theorem maf_1 {C R np : Int} {N : Int → Int} {gc gr : Nat → Int} (hM : MdOK C R np N gc gr) {x : Int} (h0 : 0 ≤ x) (h1 : x < 16807) : tM (aftZ C R N (tauZ x) 1) = if wRZ N R (x / 343 % 7) (x / 343 / 7) (x % 343) < 343 ∧ 0 ≤ x / 343 % 7 + 1 ∧ x / 343 % 7 + 1 < C ∧ 0 ≤ x / 343 / 7 ∧ x / 343 / 7 < R ∧ N ((x / 343 % 7 + 1) * 7 + x / 343 / 7) = -1 then 343 * (7 * (x / 343 / 7) + (x / 343 % 7 + 1)) + wRZ N R (x / 343 % 7) (x / 343 / 7) (x % 343) else -1 := by
  obtain ⟨-, -, e1, e2, e3, -⟩ := tauZ_of h0 h1
  have hw := wRZ_b hM.Fl (c := x / 343 % 7) (r := x / 343 / 7) (w := x % 343) (by omega) (by omega) (by omega)
  rw [aftZ_1, e1, e2, e3, tM_pl hM.2.1 hM.2.2.2.1 hw.1]
theorem maf_2 {C R : Int} {N : Int → Int} {x : Int} (hC : C ≤ 7) (hR : R ≤ 7) (h0 : 0 ≤ x) (h1 : x < 16807) : tM (aftZ C R N (tauZ x) 2) = if x % 343 < 343 ∧ 0 ≤ x / 343 % 7 ∧ x / 343 % 7 < C ∧ 0 ≤ x / 343 / 7 + 1 ∧ x / 343 / 7 + 1 < R ∧ N (x / 343 % 7 * 7 + (x / 343 / 7 + 1)) = -1 then 343 * (7 * (x / 343 / 7 + 1) + x / 343 % 7) + x % 343 else -1 := by
  obtain ⟨-, -, e1, e2, e3, -⟩ := tauZ_of h0 h1
  rw [aftZ_2, e1, e2, e3, tM_pl hC hR (by omega)]
theorem maf_3 {C R np : Int} {N : Int → Int} {gc gr : Nat → Int} (hM : MdOK C R np N gc gr) {x : Int} (h0 : 0 ≤ x) (h1 : x < 16807) : tM (aftZ C R N (tauZ x) 3) = if wLZ N R (x / 343 % 7 - 1) (x / 343 / 7) (x % 343) < 343 ∧ 0 ≤ x / 343 % 7 - 1 ∧ x / 343 % 7 - 1 < C ∧ 0 ≤ x / 343 / 7 ∧ x / 343 / 7 < R ∧ N ((x / 343 % 7 - 1) * 7 + x / 343 / 7) = -1 then 343 * (7 * (x / 343 / 7) + (x / 343 % 7 - 1)) + wLZ N R (x / 343 % 7 - 1) (x / 343 / 7) (x % 343) else -1 := by
  obtain ⟨-, -, e1, e2, e3, -⟩ := tauZ_of h0 h1
  have hw := wLZ_b hM.Fl (c := x / 343 % 7 - 1) (r := x / 343 / 7) (w := x % 343) (by omega) (by omega) (by omega)
  rw [aftZ_3, e1, e2, e3, tM_pl hM.2.1 hM.2.2.2.1 hw.1]
theorem cdZ_at {C R : Int} {N L : Int → Int} {z d : Int} (h0 : 0 ≤ d) (h3 : d ≤ 3) (h1 : ¬ L z < 1) (hno : ∀ i, 0 ≤ i → i < d → L (aftZ C R N z i) ≠ L z - 1) (he : L (aftZ C R N z d) = L z - 1) : d = cdZ C R N L z := by
  unfold cdZ
  rcases (show d = 0 ∨ d = 1 ∨ d = 2 ∨ d = 3 by omega) with rfl | rfl | rfl | rfl
  · rw [if_neg h1, if_pos he]
  · rw [if_neg h1, if_neg (hno 0 (by omega) (by omega)), if_pos he]
  · rw [if_neg h1, if_neg (hno 0 (by omega) (by omega)), if_neg (hno 1 (by omega) (by omega)), if_pos he]
  · rw [if_neg h1, if_neg (hno 0 (by omega) (by omega)), if_neg (hno 1 (by omega) (by omega)), if_neg (hno 2 (by omega) (by omega)), if_pos he]
theorem cdZ_lo {C R : Int} {N L : Int → Int} {z : Int} (h1 : L z < 1) : -1 = cdZ C R N L z := by
  unfold cdZ
  rw [if_pos h1]
theorem cdZ_no {C R : Int} {N L : Int → Int} {z : Int} (h1 : ¬ L z < 1) (hno : ∀ i, 0 ≤ i → i < 4 → L (aftZ C R N z i) ≠ L z - 1) : -1 = cdZ C R N L z := by
  unfold cdZ
  rw [if_neg h1, if_neg (hno 0 (by omega) (by omega)), if_neg (hno 1 (by omega) (by omega)), if_neg (hno 2 (by omega) (by omega)), if_neg (hno 3 (by omega) (by omega))]
theorem ilt {i d : Int} (h : i < d + 1) : i < d ∨ i = d := by omega
theorem lsN_b2 {L : Int → Int} (h : ∀ z : Int, -1 ≤ L z ∧ L z < 20000) (q : Int) : ∀ n : Nat, -1 ≤ lsN L q n ∧ lsN L q n < 20000 := by
  intro n
  induction n with
  | zero => unfold lsN; omega
  | succ n ih =>
    have := h (q * 343 + n)
    unfold lsN
    split <;> assumption
end
section
/-! reduced words: no letter behind its opposite; steps lead back -/
def rdZ : Nat → Int → Prop
  | 0, w => w = 0
  | n + 1, w => w = 0 ∨ (w % 7 ≠ 0 ∧ (w / 7 % 7 = 0 ∨ w / 7 % 7 - 1 ≠ oppZ (w % 7 - 1)) ∧ rdZ n (w / 7))
theorem rdZ_s : ∀ (n : Nat) (w : Int), rdZ n w → rdZ (n + 1) w := by
  intro n
  induction n with
  | zero => intro w h; exact Or.inl h
  | succ n ih =>
    intro w h
    rcases h with h | ⟨h1, h2, h3⟩
    · exact Or.inl h
    · exact Or.inr ⟨h1, h2, ih _ h3⟩
theorem rdZ_add (n k : Nat) (w : Int) (h : rdZ n w) : rdZ (n + k) w := by
  induction k with
  | zero => exact h
  | succ k ih => exact rdZ_s _ _ ih
theorem rdZ_lt : ∀ (k n : Nat) (w : Int), 0 ≤ w → w < 7 ^ k → rdZ n w → rdZ k w := by
  intro k
  induction k with
  | zero => intro n w h0 h1 _; show w = 0; simp at h1; omega
  | succ k ih =>
    intro n w h0 h1 h
    cases n with
    | zero => exact Or.inl h
    | succ n =>
      rcases h with h | ⟨h2, h3, h4⟩
      · exact Or.inl h
      · refine Or.inr ⟨h2, h3, ih n (w / 7) (by omega) ?_ h4⟩
        have : (7 : Int) ^ (k + 1) = 7 ^ k * 7 := Int.pow_succ 7 k
        omega
theorem wjZ_rd {n : Nat} {w k : Int} (h0 : 0 ≤ w) (hk : 0 ≤ k) (hk5 : k ≤ 5) (h : rdZ n w) : rdZ (n + 1) (wjZ w k) := by
  unfold wjZ
  split
  · rename_i hc
    cases n with
    | zero => have h : w = 0 := h; subst h; exact Or.inl (by decide)
    | succ n =>
      rcases h with h | ⟨h1, h2, h3⟩
      · subst h; exact Or.inl (by decide)
      · exact rdZ_s _ _ (rdZ_s _ _ h3)
  · rename_i hc
    refine Or.inr ⟨by omega, ?_, ?_⟩
    · rw [show (w * 7 + k + 1) / 7 = w by omega, show (w * 7 + k + 1) % 7 - 1 = k by omega]
      exact Or.inr hc
    · rw [show (w * 7 + k + 1) / 7 = w by omega]
      exact h
theorem wjZ_back {n : Nat} {w k : Int} (h0 : 0 ≤ w) (hk : 0 ≤ k) (hk5 : k ≤ 5) (h : rdZ n w) : wjZ (wjZ w k) (oppZ k) = w := by
  have ho := oppZ_b hk hk5
  have hoo := oppZ_opp hk hk5
  by_cases hc : w % 7 - 1 = oppZ k
  · have e : wjZ w k = w / 7 := if_pos hc
    rw [e]
    unfold wjZ
    rw [if_neg]
    · omega
    · rw [hoo]
      cases n with
      | zero => have h : w = 0 := h; subst h; omega
      | succ n =>
        rcases h with h | ⟨h1, h2, h3⟩
        · subst h; omega
        · rw [hc, hoo] at h2
          rcases h2 with h2 | h2
          · omega
          · exact h2
  · have e : wjZ w k = w * 7 + k + 1 := if_neg hc
    rw [e]
    unfold wjZ
    rw [if_pos (by rw [hoo]; omega)]
    omega
theorem stR_nn {C R np : Int} {N : Int → Int} {gn : Nat → Int} (hF : FlOK C R np N gn) {c r w : Int} (h0 : 0 ≤ w) : 0 ≤ stR N c r w := (stR_b hF (B := w + 1) h0 (by omega)).1
theorem stL_nn {C R np : Int} {N : Int → Int} {gn : Nat → Int} (hF : FlOK C R np N gn) {c r w : Int} (h0 : 0 ≤ w) : 0 ≤ stL N c r w := (stL_b hF (B := w + 1) h0 (by omega)).1
theorem stR_rd {C R np : Int} {N : Int → Int} {gn : Nat → Int} (hF : FlOK C R np N gn) {n : Nat} {c r w : Int} (h0 : 0 ≤ w) (h : rdZ n w) : rdZ (n + 1) (stR N c r w) := by
  have h2 := hF.N2 (c * 7 + r)
  unfold stR
  split
  · exact rdZ_s _ _ h
  · exact wjZ_rd h0 (by omega) (by omega) h
theorem stL_rd {C R np : Int} {N : Int → Int} {gn : Nat → Int} (hF : FlOK C R np N gn) {n : Nat} {c r w : Int} (h0 : 0 ≤ w) (h : rdZ n w) : rdZ (n + 1) (stL N c r w) := by
  have h2 := hF.N2 (c * 7 + r)
  unfold stL
  split
  · exact rdZ_s _ _ h
  · have := oppZ_b (k := 2 * N (c * 7 + r)) (by omega) (by omega)
    exact wjZ_rd h0 this.1 this.2 h
theorem stL_stR {C R np : Int} {N : Int → Int} {gn : Nat → Int} (hF : FlOK C R np N gn) {n : Nat} {c r w : Int} (h0 : 0 ≤ w) (h : rdZ n w) : stL N c r (stR N c r w) = w := by
  have h2 := hF.N2 (c * 7 + r)
  by_cases hc : N (c * 7 + r) = -1
  · unfold stL stR; rw [if_pos hc, if_pos hc]
  · unfold stL stR; rw [if_neg hc, if_neg hc]
    exact wjZ_back h0 (by omega) (by omega) h
theorem stR_stL {C R np : Int} {N : Int → Int} {gn : Nat → Int} (hF : FlOK C R np N gn) {n : Nat} {c r w : Int} (h0 : 0 ≤ w) (h : rdZ n w) : stR N c r (stL N c r w) = w := by
  have h2 := hF.N2 (c * 7 + r)
  by_cases hc : N (c * 7 + r) = -1
  · unfold stL stR; rw [if_pos hc, if_pos hc]
  · have h3 := oppZ_b (k := 2 * N (c * 7 + r)) (by omega) (by omega)
    have h4 := oppZ_opp (k := 2 * N (c * 7 + r)) (by omega) (by omega)
    have h5 := wjZ_back h0 h3.1 h3.2 h
    rw [h4] at h5
    unfold stL stR; rw [if_neg hc, if_neg hc]
    exact h5
theorem wRn_rd {C R np : Int} {N : Int → Int} {gn : Nat → Int} (hF : FlOK C R np N gn) {k : Nat} {c b w : Int} (h0 : 0 ≤ w) (h : rdZ k w) : ∀ n : Nat, 0 ≤ wRn N c n b w ∧ rdZ (k + n) (wRn N c n b w) := by
  intro n
  induction n with
  | zero => exact ⟨h0, h⟩
  | succ n ih => exact ⟨stR_nn hF ih.1, stR_rd hF ih.1 ih.2⟩
theorem wLn_rd {C R np : Int} {N : Int → Int} {gn : Nat → Int} (hF : FlOK C R np N gn) {c b : Int} : ∀ (n k : Nat) (w : Int), 0 ≤ w → rdZ k w → 0 ≤ wLn N c n b w ∧ rdZ (k + n) (wLn N c n b w) := by
  intro n
  induction n with
  | zero => intro k w h0 h; exact ⟨h0, h⟩
  | succ n ih =>
    intro k w h0 h
    have h1 := ih (k + 1) _ (stL_nn hF (c := c) (r := b + n) h0) (stL_rd hF h0 h)
    rw [show k + (n + 1) = k + 1 + n by omega]
    exact h1
theorem wLR {C R np : Int} {N : Int → Int} {gn : Nat → Int} (hF : FlOK C R np N gn) {k : Nat} {c b w : Int} (h0 : 0 ≤ w) (h : rdZ k w) : ∀ n : Nat, wLn N c n b (wRn N c n b w) = w := by
  intro n
  induction n with
  | zero => rfl
  | succ n ih =>
    show wLn N c n b (stL N c (b + n) (stR N c (b + n) (wRn N c n b w))) = w
    have h1 := wRn_rd hF (c := c) (b := b) h0 h n
    rw [stL_stR hF h1.1 h1.2]
    exact ih
theorem wRL {C R np : Int} {N : Int → Int} {gn : Nat → Int} (hF : FlOK C R np N gn) {c b : Int} : ∀ (n k : Nat) (w : Int), 0 ≤ w → rdZ k w → wRn N c n b (wLn N c n b w) = w := by
  intro n
  induction n with
  | zero => intro k w _ _; rfl
  | succ n ih =>
    intro k w h0 h
    show stR N c (b + n) (wRn N c n b (wLn N c n b (stL N c (b + n) w))) = w
    rw [ih (k + 1) _ (stL_nn hF h0) (stL_rd hF h0 h), stR_stL hF h0 h]
/-- a place of the floor: free, its word reduced -/
def GdZ (C R : Int) (N : Int → Int) (z : Int) : Prop := 0 ≤ z ∧ z < 16807 ∧ z / 343 / 7 < C ∧ z / 343 % 7 < R ∧ N (z / 343) = -1 ∧ rdZ 3 (z % 343)
theorem GdZ.pl {C R : Int} {N : Int → Int} {z : Int} (h : GdZ C R N z) : PlOK R z := ⟨h.1, h.2.1, h.2.2.2.1⟩
theorem plZ_mk {C R : Int} {N : Int → Int} {a b w : Int} (hw : w < 343) (ha0 : 0 ≤ a) (ha : a < C) (hb0 : 0 ≤ b) (hb : b < R) (hn : N (a * 7 + b) = -1) : plZ C R N a b w = (a * 7 + b) * 343 + w := by
  unfold plZ
  rw [if_pos ⟨hw, ha0, ha, hb0, hb, hn⟩]
def rvZ (d : Int) : Int := if d = 0 then 2 else if d = 1 then 3 else if d = 2 then 0 else 1
theorem aftZ_back {C R np : Int} {N : Int → Int} {gn : Nat → Int} (hF : FlOK C R np N gn) {z d : Int} (hz : GdZ C R N z) (hd0 : 0 ≤ d) (hd : d ≤ 3) (h : aftZ C R N z d ≠ -1) : GdZ C R N (aftZ C R N z d) ∧ aftZ C R N (aftZ C R N z d) (rvZ d) = z := by
  obtain ⟨z0, z1, zc, zr, zn, zw⟩ := hz
  have hC := hF.2.1
  have hR := hF.2.2.2.1
  have zn' : N (z / 343 / 7 * 7 + z / 343 % 7) = -1 := by rw [show z / 343 / 7 * 7 + z / 343 % 7 = z / 343 by omega]; exact zn
  have zz : (z / 343 / 7 * 7 + z / 343 % 7) * 343 + z % 343 = z := by omega
  rcases (show d = 0 ∨ d = 1 ∨ d = 2 ∨ d = 3 by omega) with rfl | rfl | rfl | rfl
  · rw [aftZ_0] at h ⊢
    obtain ⟨e1, e2, e3, g1, g2, g3, g4, g5, g6, g7⟩ := plZ_c hR (by omega) h
    refine ⟨⟨by omega, by omega, by omega, by omega, ?_, by rw [e3]; exact zw⟩, ?_⟩
    · rw [show plZ C R N (z / 343 / 7) (z / 343 % 7 - 1) (z % 343) / 343 = z / 343 / 7 * 7 + (z / 343 % 7 - 1) by omega]; exact g6
    · show aftZ C R N _ 2 = z
      rw [aftZ_2, e1, e2, e3, show z / 343 % 7 - 1 + 1 = z / 343 % 7 by omega, plZ_mk (by omega) (by omega) zc (by omega) zr zn', zz]
  · rw [aftZ_1] at h ⊢
    have hw := wRn_rd hF (c := z / 343 / 7) (b := z / 343 % 7 + 1) (k := 3) (w := z % 343) (by omega) zw (R - 1 - z / 343 % 7).toNat
    obtain ⟨e1, e2, e3, g1, g2, g3, g4, g5, g6, g7⟩ := plZ_c hR (show 0 ≤ wRZ N R (z / 343 / 7) (z / 343 % 7) (z % 343) from hw.1) h
    refine ⟨⟨by omega, by omega, by omega, by omega, ?_, ?_⟩, ?_⟩
    · rw [show plZ C R N (z / 343 / 7 + 1) (z / 343 % 7) (wRZ N R (z / 343 / 7) (z / 343 % 7) (z % 343)) / 343 = (z / 343 / 7 + 1) * 7 + z / 343 % 7 by omega]; exact g6
    · rw [e3]; exact rdZ_lt 3 _ _ hw.1 (by show _ < (343 : Int); exact g1) hw.2
    · show aftZ C R N _ 3 = z
      rw [aftZ_3, e1, e2, e3, show z / 343 / 7 + 1 - 1 = z / 343 / 7 by omega, show wLZ N R (z / 343 / 7) (z / 343 % 7) (wRZ N R (z / 343 / 7) (z / 343 % 7) (z % 343)) = z % 343 from wLR hF (by omega) zw _, plZ_mk (by omega) (by omega) zc (by omega) zr zn', zz]
  · rw [aftZ_2] at h ⊢
    obtain ⟨e1, e2, e3, g1, g2, g3, g4, g5, g6, g7⟩ := plZ_c hR (by omega) h
    refine ⟨⟨by omega, by omega, by omega, by omega, ?_, by rw [e3]; exact zw⟩, ?_⟩
    · rw [show plZ C R N (z / 343 / 7) (z / 343 % 7 + 1) (z % 343) / 343 = z / 343 / 7 * 7 + (z / 343 % 7 + 1) by omega]; exact g6
    · show aftZ C R N _ 0 = z
      rw [aftZ_0, e1, e2, e3, show z / 343 % 7 + 1 - 1 = z / 343 % 7 by omega, plZ_mk (by omega) (by omega) zc (by omega) zr zn', zz]
  · rw [aftZ_3] at h ⊢
    have hw := wLn_rd hF (c := z / 343 / 7 - 1) (b := z / 343 % 7 + 1) (R - 1 - z / 343 % 7).toNat 3 (z % 343) (by omega) zw
    obtain ⟨e1, e2, e3, g1, g2, g3, g4, g5, g6, g7⟩ := plZ_c hR (show 0 ≤ wLZ N R (z / 343 / 7 - 1) (z / 343 % 7) (z % 343) from hw.1) h
    refine ⟨⟨by omega, by omega, by omega, by omega, ?_, ?_⟩, ?_⟩
    · rw [show plZ C R N (z / 343 / 7 - 1) (z / 343 % 7) (wLZ N R (z / 343 / 7 - 1) (z / 343 % 7) (z % 343)) / 343 = (z / 343 / 7 - 1) * 7 + z / 343 % 7 by omega]; exact g6
    · rw [e3]; exact rdZ_lt 3 _ _ hw.1 (by show _ < (343 : Int); exact g1) hw.2
    · show aftZ C R N _ 1 = z
      rw [aftZ_1, e1, e2, e3, show z / 343 / 7 - 1 + 1 = z / 343 / 7 by omega, show wRZ N R (z / 343 / 7 - 1) (z / 343 % 7) (wLZ N R (z / 343 / 7 - 1) (z / 343 % 7) (z % 343)) = z % 343 from wRL hF _ 3 _ (by omega) zw, plZ_mk (by omega) (by omega) zc (by omega) zr zn', zz]
theorem rvZ_b (d : Int) : 0 ≤ rvZ d ∧ rvZ d ≤ 3 := by
  unfold rvZ
  (repeat' split) <;> omega
/-- so many reduced words of up to 3 letters; so many places -/
def rdB : Nat → Nat → Bool
  | 0, w => w == 0
  | n + 1, w => w == 0 || (w % 7 != 0 && (w / 7 % 7 == 0 || w / 7 % 7 != (if w % 7 % 2 == 1 then w % 7 + 1 else w % 7 - 1)) && rdB n (w / 7))
def gdL : List Int := (List.range 16807).filterMap (fun k => if rdB 3 (k % 343) then some (k : Int) else none)
theorem gdL_len : gdL.length = 9163 := by decide +kernel
theorem rdB_of : ∀ (n w : Nat), rdZ n (w : Int) → rdB n w = true := by
  intro n
  induction n with
  | zero =>
    intro w h
    have h : (w : Int) = 0 := h
    have : w = 0 := by omega
    subst this
    rfl
  | succ n ih =>
    intro w h
    unfold rdB
    rcases h with h | ⟨h1, h2, h3⟩
    · have : w = 0 := by omega
      subst this
      rfl
    · have h4 := ih (w / 7) h3
      have h5 : (w % 7 != 0) = true := by rw [bne_iff_ne]; omega
      have h6 : (w / 7 % 7 == 0 || w / 7 % 7 != (if w % 7 % 2 == 1 then w % 7 + 1 else w % 7 - 1)) = true := by
        rw [Bool.or_eq_true, beq_iff_eq, bne_iff_ne]
        rcases h2 with h2 | h2
        · left; omega
        · right
          intro h7
          apply h2
          unfold oppZ
          by_cases h8 : w % 7 % 2 = 1
          · rw [if_pos (by rw [beq_iff_eq]; exact h8)] at h7
            rw [if_pos (by omega)]
            omega
          · rw [if_neg (by rw [beq_iff_eq]; exact h8)] at h7
            rw [if_neg (by omega)]
            omega
      rw [h4, h5, h6]
      simp
theorem GdZ.mem {C R : Int} {N : Int → Int} {z : Int} (h : GdZ C R N z) : z ∈ gdL := by
  obtain ⟨z0, z1, -, -, -, zw⟩ := h
  refine List.mem_filterMap.mpr ⟨z.toNat, List.mem_range.mpr (by omega), ?_⟩
  rw [if_pos (rdB_of 3 _ (by rw [show ((z.toNat % 343 : Nat) : Int) = z % 343 by omega]; exact zw))]
  rw [Int.toNat_of_nonneg z0]
theorem nodup_len : ∀ (l k : List Int), l.Nodup → (∀ x ∈ l, x ∈ k) → l.length ≤ k.length := by
  intro l
  induction l with
  | nil => intro k _ _; exact Nat.zero_le _
  | cons a l ih =>
    intro k hn hs
    rw [List.nodup_cons] at hn
    have ha : a ∈ k := hs a List.mem_cons_self
    have h1 := ih (k.erase a) hn.2 (fun x hx => (List.mem_erase_of_ne (show x ≠ a from fun e => hn.1 (by rw [← e]; exact hx))).mpr (hs x (List.mem_cons_of_mem _ hx)))
    have h2 := List.length_erase_of_mem ha
    have h3 : 0 < k.length := List.length_pos_of_mem ha
    rw [List.length_cons]
    omega
theorem gd_len {C R : Int} {N : Int → Int} {l : List Int} (hn : l.Nodup) (hg : ∀ z ∈ l, GdZ C R N z) : l.length ≤ 9163 := by
  rw [← gdL_len]
  exact nodup_len l gdL hn (fun x hx => (hg x hx).mem)
end
section
/-! the breadth first search: the places reached in their order, how far, from where -/
abbrev BS : Type := List Int × (Int → Int) × (Int → Int)
def bs0 (s : Int) : BS := ([s], fun z => if z = s then 0 else -1, fun _ => s)
def bsR (S : BS) (q f : Int) : BS := if q ≠ -1 ∧ S.2.1 q = -1 then (S.1 ++ [q], fun z => if z = q then S.2.1 f + 1 else S.2.1 z, fun z => if z = q then f else S.2.2 z) else S
def bsK (nb : Int → Int → Int) (S : BS) (f : Int) : Nat → BS
  | 0 => S
  | d + 1 => bsR (bsK nb S f d) (nb f d) f
def bsAt (S : BS) (i : Nat) : Int := S.1.getD i 0
def bsG (nb : Int → Int → Int) : Nat → Nat → BS → BS
  | 0, _, S => S
  | n + 1, i, S => if i < S.1.length then bsG nb n (i + 1) (bsK nb S (bsAt S i) 4) else S
def bsF (nb : Int → Int → Int) (q : Int) : Nat → Nat → BS → Int × BS
  | 0, _, S => (-1, S)
  | n + 1, i, S => if i < S.1.length then (if bsAt S i / 343 = q then (bsAt S i, S) else bsF nb q n (i + 1) (bsK nb S (bsAt S i) 4)) else (-1, S)
/-- what holds all the while: at place i, its first d directions done -/
def BI (nb : Int → Int → Int) (s : Int) (G : Int → Prop) (S : BS) (i : Nat) (d : Int) : Prop :=
  S.1.Nodup ∧ S.1[0]? = some s ∧ (∀ z, (S.2.1 z = -1 ∧ z ∉ S.1) ∨ (0 ≤ S.2.1 z ∧ z ∈ S.1)) ∧ (∀ z ∈ S.1, G z) ∧ (S.2.1 s = 0 ∧ S.2.2 s = s) ∧
  (∀ z ∈ S.1, z ≠ s → S.2.2 z ∈ S.1 ∧ S.2.1 z = S.2.1 (S.2.2 z) + 1 ∧ ∃ e : Int, 0 ≤ e ∧ e ≤ 3 ∧ nb (S.2.2 z) e = z) ∧
  (∀ j k : Nat, j ≤ k → ∀ y z, S.1[j]? = some y → S.1[k]? = some z → S.2.1 y ≤ S.2.1 z) ∧
  (∀ y, S.1[i]? = some y → ∀ z ∈ S.1, S.2.1 z ≤ S.2.1 y + 1) ∧
  (∀ (j : Nat) (y : Int), S.1[j]? = some y → ∀ e : Int, 0 ≤ e → e ≤ 3 → (j < i ∨ (j = i ∧ e < d)) → nb y e ≠ -1 → nb y e ∈ S.1 ∧ S.2.1 (nb y e) ≤ S.2.1 y + 1)
theorem BI_0 {nb : Int → Int → Int} {s : Int} {G : Int → Prop} (hs : G s) : BI nb s G (bs0 s) 0 0 := by
  have hm : ∀ z, z ∈ (bs0 s).1 ↔ z = s := fun z => by show z ∈ [s] ↔ z = s; exact List.mem_singleton
  have h0 : ∀ (j : Nat) (y : Int), (bs0 s).1[j]? = some y → j = 0 ∧ y = s := by
    intro j y h
    have h : [s][j]? = some y := h
    cases j with
    | zero => exact ⟨rfl, by simpa using h.symm⟩
    | succ j => simp at h
  have hD : ∀ z, (bs0 s).2.1 z = if z = s then 0 else -1 := fun z => rfl
  refine ⟨by show [s].Nodup; simp, rfl, fun z => ?_, fun z hz => by rw [(hm z).mp hz]; exact hs, ⟨by rw [hD, if_pos rfl], rfl⟩, fun z hz hn => absurd ((hm z).mp hz) hn, ?_, ?_, ?_⟩
  · by_cases h : z = s
    · right; rw [hD, if_pos h, hm]; exact ⟨by omega, h⟩
    · left; rw [hD, if_neg h, hm]; exact ⟨rfl, h⟩
  · intro j k _ y z h1 h2
    rw [(h0 j y h1).2, (h0 k z h2).2]
    exact Int.le_refl _
  · intro y h z hz
    rw [(h0 0 y h).2, (hm z).mp hz]
    omega
  · intro j y h e _ _ hj
    have := (h0 j y h).1
    omega
theorem bsR_no {S : BS} {q f : Int} (h : ¬ (q ≠ -1 ∧ S.2.1 q = -1)) : bsR S q f = S := if_neg h
theorem BI_d {nb : Int → Int → Int} {s : Int} {G : Int → Prop} {S : BS} {i : Nat} {d f : Int} (h : BI nb s G S i d) (hf : S.1[i]? = some f) (hd0 : 0 ≤ d) (hd : d ≤ 3) (hG : G f → nb f d ≠ -1 → G (nb f d)) : BI nb s G (bsR S (nb f d) f) i (d + 1) := by
  obtain ⟨h1, h2, h3, h4, h5, h6, h7, h8, h9⟩ := id h
  have hfm : f ∈ S.1 := List.mem_of_getElem? hf
  by_cases hc : nb f d ≠ -1 ∧ S.2.1 (nb f d) = -1
  · have e : bsR S (nb f d) f = (S.1 ++ [nb f d], fun z => if z = nb f d then S.2.1 f + 1 else S.2.1 z, fun z => if z = nb f d then f else S.2.2 z) := if_pos hc
    have hq : nb f d ∉ S.1 := by
      rcases h3 (nb f d) with g | g
      · exact g.2
      · omega
    have hD : ∀ z, (bsR S (nb f d) f).2.1 z = if z = nb f d then S.2.1 f + 1 else S.2.1 z := fun z => by rw [e]
    have hPa : ∀ z, (bsR S (nb f d) f).2.2 z = if z = nb f d then f else S.2.2 z := fun z => by rw [e]
    have hL : (bsR S (nb f d) f).1 = S.1 ++ [nb f d] := by rw [e]
    have hm : ∀ z, z ∈ (bsR S (nb f d) f).1 ↔ z ∈ S.1 ∨ z = nb f d := fun z => by rw [hL, List.mem_append, List.mem_singleton]
    have hDo : ∀ z ∈ S.1, (bsR S (nb f d) f).2.1 z = S.2.1 z := fun z hz => by rw [hD, if_neg (show ¬ z = nb f d from fun ee => hq (ee ▸ hz))]
    have hDq : (bsR S (nb f d) f).2.1 (nb f d) = S.2.1 f + 1 := by rw [hD, if_pos rfl]
    have hs : s ∈ S.1 := List.mem_of_getElem? h2
    have hfD : 0 ≤ S.2.1 f := by
      rcases h3 f with g | g
      · exact absurd hfm g.2
      · exact g.1
    have hat : ∀ (j : Nat) (y : Int), (bsR S (nb f d) f).1[j]? = some y → (S.1[j]? = some y) ∨ (j = S.1.length ∧ y = nb f d) := by
      intro j y hj
      rw [hL] at hj
      by_cases hjl : j < S.1.length
      · rw [List.getElem?_append_left hjl] at hj
        exact Or.inl hj
      · rw [List.getElem?_append_right (by omega)] at hj
        have hz : j - S.1.length < 1 := (List.getElem?_eq_some_iff.mp hj).1
        rw [show j - S.1.length = 0 by omega] at hj
        right
        exact ⟨by omega, by simpa using hj.symm⟩
    have hil : i < S.1.length := (List.getElem?_eq_some_iff.mp hf).1
    refine ⟨?_, ?_, ?_, ?_, ?_, ?_, ?_, ?_, ?_⟩
    · rw [hL, List.nodup_append]
      exact ⟨h1, by simp, fun a ha b hb => by rw [List.mem_singleton.mp hb]; exact fun ee => hq (ee ▸ ha)⟩
    · rw [hL, List.getElem?_append_left (by omega)]
      exact h2
    · intro z
      by_cases hz : z = nb f d
      · right; rw [hD, if_pos hz]; exact ⟨by omega, (hm z).mpr (Or.inr hz)⟩
      · rcases h3 z with g | g
        · left; rw [hD, if_neg hz]
          exact ⟨g.1, fun hh => ((hm z).mp hh).elim g.2 hz⟩
        · right; rw [hD, if_neg hz]
          exact ⟨g.1, (hm z).mpr (Or.inl g.2)⟩
    · intro z hz
      rcases (hm z).mp hz with g | g
      · exact h4 z g
      · rw [g]; exact hG (h4 f hfm) hc.1
    · refine ⟨by rw [hDo s hs]; exact h5.1, ?_⟩
      rw [hPa, if_neg (show ¬ s = nb f d from fun ee => hq (ee ▸ hs))]
      exact h5.2
    · intro z hz hzs
      by_cases hzq : z = nb f d
      · rw [hPa, if_pos hzq, hDo f hfm, hzq, hDq]
        exact ⟨(hm f).mpr (Or.inl hfm), rfl, d, hd0, hd, rfl⟩
      · have hz' : z ∈ S.1 := ((hm z).mp hz).elim id (fun g => absurd g hzq)
        obtain ⟨g1, g2, g3⟩ := h6 z hz' hzs
        rw [hPa, if_neg hzq, hDo z hz', hDo _ g1]
        exact ⟨(hm _).mpr (Or.inl g1), g2, g3⟩
    · intro j k hjk y z hy hz
      rcases hat k z hz with gz | ⟨gz1, gz2⟩
      · rcases hat j y hy with gy | ⟨gy1, gy2⟩
        · rw [hDo y (List.mem_of_getElem? gy), hDo z (List.mem_of_getElem? gz)]
          exact h7 j k hjk y z gy gz
        · have := (List.getElem?_eq_some_iff.mp gz).1
          omega
      · rw [gz2, hDq]
        rcases hat j y hy with gy | ⟨gy1, gy2⟩
        · rw [hDo y (List.mem_of_getElem? gy)]
          exact h8 f hf y (List.mem_of_getElem? gy)
        · rw [gy2, hDq]
          exact Int.le_refl _
    · intro y hy z hz
      have hy' : y = f := by
        rcases hat i y hy with g | ⟨g1, -⟩
        · exact Option.some.inj (g.symm.trans hf)
        · omega
      rw [hy', hDo f hfm]
      rcases (hm z).mp hz with g | g
      · rw [hDo z g]; exact h8 f hf z g
      · rw [g, hDq]; exact Int.le_refl _
    · intro j y hy ee he0 he3 hj hne
      rcases hat j y hy with g | ⟨g1, -⟩
      · have hym := List.mem_of_getElem? g
        by_cases hnew : j = i ∧ ee = d
        · have hyf : y = f := by
            rw [hnew.1] at g
            exact Option.some.inj (g.symm.trans hf)
          rw [hyf, hnew.2, hDq, hDo f hfm]
          exact ⟨(hm _).mpr (Or.inr rfl), Int.le_refl _⟩
        · obtain ⟨k1, k2⟩ := h9 j y g ee he0 he3 (by omega) hne
          rw [hDo _ k1, hDo y hym]
          exact ⟨(hm _).mpr (Or.inl k1), k2⟩
      · omega
  · rw [bsR_no hc]
    refine ⟨h1, h2, h3, h4, h5, h6, h7, h8, ?_⟩
    intro j y hy ee he0 he3 hj hne
    by_cases hnew : j = i ∧ ee = d
    · have hyf : y = f := by
        rw [hnew.1] at hy
        exact Option.some.inj (hy.symm.trans hf)
      rw [hyf, hnew.2] at hne ⊢
      have hmem : nb f d ∈ S.1 := by
        rcases h3 (nb f d) with g | g
        · exact absurd ⟨hne, g.1⟩ hc
        · exact g.2
      exact ⟨hmem, h8 f hf _ hmem⟩
    · exact h9 j y hy ee he0 he3 (by omega) hne
theorem BI_i {nb : Int → Int → Int} {s : Int} {G : Int → Prop} {S : BS} {i : Nat} {d : Int} (h : BI nb s G S i d) (hd : 3 < d) : BI nb s G S (i + 1) 0 := by
  obtain ⟨h1, h2, h3, h4, h5, h6, h7, h8, h9⟩ := h
  refine ⟨h1, h2, h3, h4, h5, h6, h7, ?_, ?_⟩
  · intro y hy z hz
    have hl := (List.getElem?_eq_some_iff.mp hy).1
    have hi : S.1[i]? = some S.1[i] := List.getElem?_eq_getElem (by omega)
    have k1 := h8 _ hi z hz
    have k2 := h7 i (i + 1) (by omega) _ y hi hy
    omega
  · intro j y hy e he0 he3 hj hne
    exact h9 j y hy e he0 he3 (by omega) hne
theorem bsR_len (S : BS) (q f : Int) : S.1.length ≤ (bsR S q f).1.length ∧ (∀ (j : Nat) (y : Int), S.1[j]? = some y → (bsR S q f).1[j]? = some y) := by
  unfold bsR
  split
  · refine ⟨by simp, fun j y h => ?_⟩
    show (S.1 ++ [q])[j]? = some y
    rw [List.getElem?_append_left (List.getElem?_eq_some_iff.mp h).1]
    exact h
  · exact ⟨Nat.le_refl _, fun _ _ h => h⟩
theorem bsK_at (nb : Int → Int → Int) (S : BS) (f : Int) (d : Nat) : ∀ (j : Nat) (y : Int), S.1[j]? = some y → (bsK nb S f d).1[j]? = some y := by
  induction d with
  | zero => exact fun _ _ h => h
  | succ d ih => exact fun j y h => (bsR_len _ _ _).2 j y (ih j y h)
theorem bsAt_some {S : BS} {i : Nat} (h : i < S.1.length) : S.1[i]? = some (bsAt S i) := by
  unfold bsAt
  rw [List.getD_eq_getElem?_getD, List.getElem?_eq_getElem h]
  rfl
theorem BI_K {nb : Int → Int → Int} {s : Int} {G : Int → Prop} {S : BS} {i : Nat} {f : Int} (h : BI nb s G S i 0) (hf : S.1[i]? = some f) (hG : ∀ d : Int, 0 ≤ d → d ≤ 3 → G f → nb f d ≠ -1 → G (nb f d)) : ∀ d : Nat, d ≤ 4 → BI nb s G (bsK nb S f d) i d := by
  intro d
  induction d with
  | zero => intro _; exact h
  | succ d ih =>
    intro hd
    have h2 := BI_d (ih (by omega)) (bsK_at nb S f d i f hf) (by omega) (by omega) (hG d (by omega) (by omega))
    rw [show ((d + 1 : Nat) : Int) = (d : Int) + 1 by omega]
    exact h2
/-- the whole search -/
def BF (nb : Int → Int → Int) (s : Int) : BS := bsG nb 16807 0 (bs0 s)
theorem BI_G {nb : Int → Int → Int} {s : Int} {G : Int → Prop} (hG : ∀ f d : Int, 0 ≤ d → d ≤ 3 → G f → nb f d ≠ -1 → G (nb f d)) : ∀ (n i : Nat) (S : BS), BI nb s G S i 0 → ∃ k, BI nb s G (bsG nb n i S) k 0 ∧ ((bsG nb n i S).1.length ≤ k ∨ k = i + n) := by
  intro n
  induction n with
  | zero => intro i S h; exact ⟨i, h, Or.inr rfl⟩
  | succ n ih =>
    intro i S h
    show ∃ k, BI nb s G (if i < S.1.length then bsG nb n (i + 1) (bsK nb S (bsAt S i) 4) else S) k 0 ∧ ((if i < S.1.length then bsG nb n (i + 1) (bsK nb S (bsAt S i) 4) else S).1.length ≤ k ∨ k = i + (n + 1))
    by_cases hl : i < S.1.length
    · rw [if_pos hl]
      have h2 := BI_i (BI_K h (bsAt_some hl) (fun d h0 h3 => hG _ d h0 h3) 4 (Nat.le_refl _)) (by decide)
      obtain ⟨k, k1, k2⟩ := ih (i + 1) _ h2
      exact ⟨k, k1, by omega⟩
    · rw [if_neg hl]
      exact ⟨i, h, Or.inl (by omega)⟩
/-- .. at its end: every step from a place reached leads to one, at most one farther -/
theorem BF_end {nb : Int → Int → Int} {s : Int} {G : Int → Prop} (hG : ∀ f d : Int, 0 ≤ d → d ≤ 3 → G f → nb f d ≠ -1 → G (nb f d)) (hs : G s) (hlen : ∀ l : List Int, l.Nodup → (∀ z ∈ l, G z) → l.length ≤ 16807) : ∃ k, BI nb s G (BF nb s) k 0 ∧ (BF nb s).1.length ≤ k := by
  obtain ⟨k, k1, k2⟩ := BI_G hG 16807 0 (bs0 s) (BI_0 hs)
  refine ⟨k, k1, ?_⟩
  have := hlen (BF nb s).1 k1.1 k1.2.2.2.1
  unfold BF at this ⊢
  omega
theorem BF_close {nb : Int → Int → Int} {s : Int} {G : Int → Prop} {S : BS} {k : Nat} (h : BI nb s G S k 0) (hk : S.1.length ≤ k) {y e : Int} (hy : y ∈ S.1) (he0 : 0 ≤ e) (he : e ≤ 3) (hn : nb y e ≠ -1) : nb y e ∈ S.1 ∧ S.2.1 (nb y e) ≤ S.2.1 y + 1 := by
  obtain ⟨j, hj⟩ := List.getElem?_of_mem hy
  have := (List.getElem?_eq_some_iff.mp hj).1
  exact h.2.2.2.2.2.2.2.2 j y hj e he0 he (Or.inl (by omega)) hn
end
section
/-! methods that change cells: a world ws at the start, W u at the end; nothing else changed -/
def rmM (k mc ms : Nat) : Room := { frames := k, cells := mc, slots := ms, locals := 64 * k }
def MPre (D : va_G) (cI cJ : ClassId) (ws : va_W) (sz : Nat) : State → Prop := fun U => U.heap.size = sz ∧ va_P D vwCl ws U.heap ∧ KK D cI cJ U ∧ va_D (fun _ => True) ws
def QMi (D : va_G) (A : Nat → Prop) {S : Type} (post : Int → S → Prop) (Wf : S → va_W) : Array Value → State → Outcome → State → Prop := va_Qi (fun r u => ∃ z : Int, r = iI z ∧ post z u) (fun u t => va_P D vwCl (Wf u) t.heap ∧ va_D A (Wf u)) A
def QMv (D : va_G) (A : Nat → Prop) {S : Type} (post : S → Prop) (Wf : S → va_W) : Array Value → State → Outcome → State → Prop := va_Qv post (fun u t => va_P D vwCl (Wf u) t.heap ∧ va_D A (Wf u)) A
def MMi (l : Launch) (y : MethodName) (cd : Cond) (k mc ms : Nat) (As : List Value) (D : va_G) (cI cJ : ClassId) (ws : va_W) (sz : Nat) {S : Type} (post : Int → S → Prop) (Wf : S → va_W) : Prop :=
  Met l y (cd :: GW) (rmM k mc ms) (va_Pc As (MPre D cI cJ ws sz)) (QMi D (va_A ws sz) post Wf) mc ms (va_A ws sz)
def MMv (l : Launch) (y : MethodName) (cd : Cond) (k mc ms : Nat) (As : List Value) (D : va_G) (cI cJ : ClassId) (ws : va_W) (sz : Nat) {S : Type} (post : S → Prop) (Wf : S → va_W) : Prop :=
  Met l y (cd :: GW) (rmM k mc ms) (va_Pc As (MPre D cI cJ ws sz)) (QMv D (va_A ws sz) post Wf) mc ms (va_A ws sz)
theorem MPre_blind {As : List Value} {D : va_G} {cI cJ : ClassId} {ws : va_W} {sz : Nat} : FrameBlind (va_Pc As (MPre D cI cJ ws sz)) := fun a U g mk q => ⟨q.1, q.2.1, q.2.2.1, q.2.2.2.1.calling, q.2.2.2.2⟩
theorem MM_of {l : Launch} {y : MethodName} {k mc ms : Nat} {As : List Value} {D : va_G} {cI cJ : ClassId} {ws : va_W} {sz : Nat} {Qc : (Nat → Prop) → Array Value → State → Outcome → State → Prop} {cc : ByteArray} {maxL : Nat} {ret : Option FieldType} {own : String}
    (hy : plainName y.cls = true) (ho : y.cls = own) (hn : (lg_sl As).length ≤ maxL)
    (body : ∀ (p : Program) (e : Env) (s : State) (m : MethodId) (below : List Frame) (meth : Method) (c : Code) (ls : Array Slot) (A : Nat → Prop), p.tables.exec = Jvm.exec → c.code = cc → meth.sig.returnType = ret → (∀ w ∈ GW, w.before As.toArray s = true) → s.vm.findClass own = some m.cls → meth.locks = false → c.maxLocals = maxL → meth.name = y.name → KK D cI cJ s → va_P D vwCl ws s.heap → va_D A ws → (∀ q : Nat, s.heap.size ≤ q → A q) → va_S A s.heap s.heap [] → lv_has ls maxL (lv_args 0 As) →
      W p l e (rmM k mc ms) s m As.toArray below meth c s.heap [] 0 0 (MQ below (Qc A) As.toArray s mc ms A) (F0 m 0 ls [])) : Met l y (.code y cc maxL ret :: GW) (rmM k mc ms) (va_Pc As (MPre D cI cJ ws sz)) (Qc (va_A ws sz)) mc ms (va_A ws sz) := by
  refine Met.ofW (cc := cc) (maxL := maxL) (ret := ret) hy rfl ?_
  intro p e s m args below meth c s₁ B hml hv
  obtain ⟨rfl, hsz, hP, hK, hD0⟩ := hv
  subst hsz
  have hts := atoms_spec (ws := Cond.code y cc maxL ret :: GW) B.pre
  have hl := lv_entry As (n := maxL) hn
  rw [lg_entry_eq]
  exact body p e s m below meth c _ (va_A ws s.heap.size) B.exec B.bytes B.returns (fun w h => hts w (List.mem_cons_of_mem _ h)) (by rw [← ho]; exact findClass_of_methodNamed B.named) B.notSynchronized hml (name_of_methodNamed B.named B.method).1 hK hP hD0.self (fun q h => Or.inr h) va_S.rf hl
section MC
variable {p : Program} {l : Launch} {e : Env} {R : Room} {s : State} {m : MethodId} {args : Array Value} {below : List Frame} {meth : Method} {c : Code} {H : Heap} {locs : List Loc} {cells slots : Nat} {Q : State → Prop}
variable {cc : ByteArray} {pc : Nat} {ls : Array Slot} {rest st : List Value} {D : va_G} {cI cJ : ClassId} {A : Nat → Prop}
theorem MM_iret {S : Type} {post : Int → S → Prop} {Wf : S → va_W} {mc ms : Nat} {x : Int} (u : S) (hexec : p.tables.exec = Jvm.exec) (hb : c.code = cc) (hr : meth.sig.returnType = some .int) (hlocks : meth.locks = false) (hP : va_P D vwCl (Wf u) H) (hD : va_D A (Wf u)) (hS : va_S A s.heap H locs) (hc : cells ≤ mc) (hs : slots ≤ ms) (hdg : decode cc pc = .ok (.ireturn, 1)) (hq : post x u) :
    W p l e R s m args below meth c H locs cells slots (MQ below (QMi D A post Wf) args s mc ms A) (F0 m pc ls [.int (iI x)]) :=
  W.widen hc hs (W.iret hexec hb hr (fun t ht hW => ⟨⟨iI x, u, rfl, ⟨x, rfl, hq⟩, by rw [ht]; exact hP, hD⟩, hS.F ht⟩) hS.2.2 hdg hlocks)
theorem MM_zret {S : Type} {post : Int → S → Prop} {Wf : S → va_W} {mc ms : Nat} {x : Int} (u : S) (hexec : p.tables.exec = Jvm.exec) (hb : c.code = cc) (hr : meth.sig.returnType = some .boolean) (hlocks : meth.locks = false) (hP : va_P D vwCl (Wf u) H) (hD : va_D A (Wf u)) (hS : va_S A s.heap H locs) (hc : cells ≤ mc) (hs : slots ≤ ms) (hdg : decode cc pc = .ok (.ireturn, 1)) (hn : narrow .boolean (.int (iI x)) = .int (iI x)) (hq : post x u) :
    W p l e R s m args below meth c H locs cells slots (MQ below (QMi D A post Wf) args s mc ms A) (F0 m pc ls [.int (iI x)]) :=
  W.widen hc hs (W.zret hexec hb hr hn (fun t ht hW => ⟨⟨iI x, u, rfl, ⟨x, rfl, hq⟩, by rw [ht]; exact hP, hD⟩, hS.F ht⟩) hS.2.2 hdg hlocks)
theorem MM_vret {S : Type} {post : S → Prop} {Wf : S → va_W} {mc ms : Nat} (u : S) (hexec : p.tables.exec = Jvm.exec) (hb : c.code = cc) (hr : meth.sig.returnType = none) (hlocks : meth.locks = false) (hP : va_P D vwCl (Wf u) H) (hD : va_D A (Wf u)) (hS : va_S A s.heap H locs) (hc : cells ≤ mc) (hs : slots ≤ ms) (hdg : decode cc pc = .ok (.return_, 1)) (hq : post u) :
    W p l e R s m args below meth c H locs cells slots (MQ below (QMv D A post Wf) args s mc ms A) (F0 m pc ls []) :=
  W.widen hc hs (W.vret hexec hb hr (fun t ht hW => ⟨⟨u, rfl, hq, by rw [ht]; exact hP, hD⟩, hS.F ht⟩) hS.2.2 hdg hlocks)
/-- behind a call that gives an int -/
theorem MM_goi {S : Type} {post : Int → S → Prop} {Wf : S → va_W} {ws wc wr : va_W} {mc ms : Nat} {a : Array Value} (hP : va_P D vwCl ws H) (hD : va_D A ws) (hS : va_S A s.heap H locs) (hA : ∀ q : Nat, s.heap.size ≤ q → A q) (pl rl : List Nat) (hC : pl.map (fun i => ws[i]?) = wc.map some) (hR : rl.map (fun i => ws[i]?) = wr.map some) (hn : va_nd rl = true) (hdis : ∀ i ∈ rl, i ∉ pl)
    (hr : va_Run p l e R s m args below meth c H locs cells slots mc ms (F0 m pc ls st) rest (QMi D (va_A wc H.size) post Wf a) (va_A wc H.size))
    (kk : ∀ (r : Int) (u : S) (H1 : Heap) (locs1 : List Loc), post r u → va_P D vwCl (wr ++ Wf u) H1 → va_D A (wr ++ Wf u) → va_S A s.heap H1 locs1 → W p l e R s m args below meth c H1 locs1 (cells + mc) (slots + ms) Q (F0 m (pc + 3) ls (.int (iI r) :: rest))) : W p l e R s m args below meth c H locs cells slots Q (F0 m pc ls st) := by
  have hF := va_free (wc := wc) hD hS hA pl hC
  refine va_calli hr hS (fun q _ h => hF q h) hF (fun r u t H1 locs1 ht hvm hw hB hz hk hS1 => ?_)
  obtain ⟨z, rfl, hq⟩ := hw
  obtain ⟨hP1, hD1⟩ := hB
  rw [ht] at hP1
  obtain ⟨hP2, hD2⟩ := va_join hP hD pl rl hC hR hn hdis hk hF hP1 hD1
  exact kk z u H1 locs1 hq hP2 hD2 hS1
theorem MM_gov {S : Type} {post : S → Prop} {Wf : S → va_W} {ws wc wr : va_W} {mc ms : Nat} {a : Array Value} (hP : va_P D vwCl ws H) (hD : va_D A ws) (hS : va_S A s.heap H locs) (hA : ∀ q : Nat, s.heap.size ≤ q → A q) (pl rl : List Nat) (hC : pl.map (fun i => ws[i]?) = wc.map some) (hR : rl.map (fun i => ws[i]?) = wr.map some) (hn : va_nd rl = true) (hdis : ∀ i ∈ rl, i ∉ pl)
    (hr : va_Run p l e R s m args below meth c H locs cells slots mc ms (F0 m pc ls st) rest (QMv D (va_A wc H.size) post Wf a) (va_A wc H.size))
    (kk : ∀ (u : S) (H1 : Heap) (locs1 : List Loc), post u → va_P D vwCl (wr ++ Wf u) H1 → va_D A (wr ++ Wf u) → va_S A s.heap H1 locs1 → W p l e R s m args below meth c H1 locs1 (cells + mc) (slots + ms) Q (F0 m (pc + 3) ls rest)) : W p l e R s m args below meth c H locs cells slots Q (F0 m pc ls st) := by
  have hF := va_free (wc := wc) hD hS hA pl hC
  refine va_callv hr hS (fun q _ h => hF q h) hF (fun u t H1 locs1 ht hvm hw hB hz hk hS1 => ?_)
  obtain ⟨hP1, hD1⟩ := hB
  rw [ht] at hP1
  obtain ⟨hP2, hD2⟩ := va_join hP hD pl rl hC hR hn hdis hk hF hP1 hD1
  exact kk u H1 locs1 hw hP2 hD2 hS1
theorem MM_pre {As : List Value} {ws wc : va_W} (hK : KK D cI cJ s) (hP : va_P D vwCl ws H) (hD : va_D A ws) (pl : List Nat) (hC : pl.map (fun i => ws[i]?) = wc.map some) (hn : va_nd pl = true) (hs : pl.filterMap (fun i => ws[i]?) = wc) : ∀ U : State, U.heap = H → s.WarmedH U.vm → va_Pc As (MPre D cI cJ wc H.size) As.toArray U :=
  fun U hU hW => ⟨rfl, by rw [hU], by rw [hU]; exact hP.sub pl hs, hK.warm hW, (hD.sub pl hn hC).weaken (fun _ _ _ _ => trivial)⟩
theorem fm_of {ws wc : va_W} {pl : List Nat} (hC : pl.map (fun i => ws[i]?) = wc.map some) : pl.filterMap (fun i => ws[i]?) = wc := by
  have h : pl.filterMap (fun i => ws[i]?) = (pl.map (fun i => ws[i]?)).filterMap id := by rw [List.filterMap_map]; rfl
  rw [h, hC]
  induction wc with
  | nil => rfl
  | cons a t ih => simp
/-- calls of methods that change cells: on an object of the world .. -/
theorem zm_Vi {y : MethodName} {bytes : ByteArray} {maxL index k n mc ms : Nat} {ret : Option FieldType} {own C : String} {b : Addr} {As : List Value} {ws wc wr : va_W} {S : Type} {post : Int → S → Prop} {Wf : S → va_W} (hexec : p.tables.exec = Jvm.exec) (hb : c.code = cc) (hml : c.maxLocals = ls.size) (hts : ∀ w ∈ GW, w.before args s = true) (hown : s.vm.findClass own = some m.cls) (hK : KK D cI cJ s) (hP : va_P D vwCl ws H) (hD : va_D A ws) (hS : va_S A s.heap H locs) (hA : ∀ q : Nat, s.heap.size ≤ q → A q)
    (hM : MMi l y (.code y bytes maxL ret) k mc ms (.ref b :: As) D cI cJ wc H.size post Wf) (hG : GoodIn GW (wsV own index C y (.code y bytes maxL ret :: GW))) (hd : y.cls = C ∧ y.cls ≠ "java/lang/invoke/MethodHandle" ∧ y.cls ≠ "java/lang/invoke/VarHandle" ∧ (parseMethodDescriptor y.desc).map (fun d => d.parameters.length) = some n) (hn : As.length = n)
    (hR : k + 1 ≤ R.frames ∧ 8 + (maxL + 11) + 64 * k ≤ R.locals) (hf : cells + mc ≤ R.cells ∧ slots + ms ≤ R.slots) (pl rl : List Nat) (hC : pl.map (fun i => ws[i]?) = wc.map some) (hRl : rl.map (fun i => ws[i]?) = wr.map some) (hn1 : va_nd pl = true) (hn2 : va_nd rl = true) (hdis : ∀ i ∈ rl, i ∉ pl) (q0 : Nat) {ci : Nat} {fs : List Value} {q : vw_C} (hc : vwCl[ci]? = some q) (hq : q.1 = C) (he : ws[q0]? = some (b, .inr (ci, fs))) (hst : st = As.reverse ++ .ref b :: rest) (hW : (rest.map fun v => v.category).sum ≤ 8) (hdg : decode cc pc = .ok (.invokevirtual index, 3))
    (kk : ∀ (r : Int) (u : S) (H1 : Heap) (locs1 : List Loc), post r u → va_P D vwCl (wr ++ Wf u) H1 → va_D A (wr ++ Wf u) → va_S A s.heap H1 locs1 → W p l e R s m args below meth c H1 locs1 (cells + mc) (slots + ms) Q (F0 m (pc + 3) ls (.int (iI r) :: rest))) : W p l e R s m args below meth c H locs cells slots Q (F0 m pc ls st) := by
  have hr := va_recv hK.1 hP hc he
  rw [hq] at hr
  exact MM_goi hP hD hS hA pl rl hC hRl hn2 hdis (va_runV (C := C) (As := As) (rest := rest) (nL := ls.size) ⟨hexec, hb, hml, hown, hts⟩ hM (cwV n hts hG rfl rfl rfl hd hR) ⟨MPre_blind, hr, MM_pre hK hP hD pl hC hn1 (fm_of hC)⟩ rfl hn rfl hst (lv_room hW) hdg hf) kk
theorem zm_Vv {y : MethodName} {bytes : ByteArray} {maxL index k n mc ms : Nat} {own C : String} {b : Addr} {As : List Value} {ws wc wr : va_W} {S : Type} {post : S → Prop} {Wf : S → va_W} (hexec : p.tables.exec = Jvm.exec) (hb : c.code = cc) (hml : c.maxLocals = ls.size) (hts : ∀ w ∈ GW, w.before args s = true) (hown : s.vm.findClass own = some m.cls) (hK : KK D cI cJ s) (hP : va_P D vwCl ws H) (hD : va_D A ws) (hS : va_S A s.heap H locs) (hA : ∀ q : Nat, s.heap.size ≤ q → A q)
    (hM : MMv l y (.code y bytes maxL none) k mc ms (.ref b :: As) D cI cJ wc H.size post Wf) (hG : GoodIn GW (wsV own index C y (.code y bytes maxL none :: GW))) (hd : y.cls = C ∧ y.cls ≠ "java/lang/invoke/MethodHandle" ∧ y.cls ≠ "java/lang/invoke/VarHandle" ∧ (parseMethodDescriptor y.desc).map (fun d => d.parameters.length) = some n) (hn : As.length = n)
    (hR : k + 1 ≤ R.frames ∧ 8 + (maxL + 11) + 64 * k ≤ R.locals) (hf : cells + mc ≤ R.cells ∧ slots + ms ≤ R.slots) (pl rl : List Nat) (hC : pl.map (fun i => ws[i]?) = wc.map some) (hRl : rl.map (fun i => ws[i]?) = wr.map some) (hn1 : va_nd pl = true) (hn2 : va_nd rl = true) (hdis : ∀ i ∈ rl, i ∉ pl) (q0 : Nat) {ci : Nat} {fs : List Value} {q : vw_C} (hc : vwCl[ci]? = some q) (hq : q.1 = C) (he : ws[q0]? = some (b, .inr (ci, fs))) (hst : st = As.reverse ++ .ref b :: rest) (hW : (rest.map fun v => v.category).sum ≤ 8) (hdg : decode cc pc = .ok (.invokevirtual index, 3))
    (kk : ∀ (u : S) (H1 : Heap) (locs1 : List Loc), post u → va_P D vwCl (wr ++ Wf u) H1 → va_D A (wr ++ Wf u) → va_S A s.heap H1 locs1 → W p l e R s m args below meth c H1 locs1 (cells + mc) (slots + ms) Q (F0 m (pc + 3) ls rest)) : W p l e R s m args below meth c H locs cells slots Q (F0 m pc ls st) := by
  have hr := va_recv hK.1 hP hc he
  rw [hq] at hr
  exact MM_gov hP hD hS hA pl rl hC hRl hn2 hdis (va_runV (C := C) (As := As) (rest := rest) (nL := ls.size) ⟨hexec, hb, hml, hown, hts⟩ hM (cwV n hts hG rfl rfl rfl hd hR) ⟨MPre_blind, hr, MM_pre hK hP hD pl hC hn1 (fm_of hC)⟩ rfl hn rfl hst (lv_room hW) hdg hf) kk
/-- .. a static one of another class .. -/
theorem zm_Sv {y : MethodName} {bytes : ByteArray} {maxL index k n mc ms : Nat} {own : String} {As : List Value} {ws wc wr : va_W} {S : Type} {post : S → Prop} {Wf : S → va_W} (hexec : p.tables.exec = Jvm.exec) (hb : c.code = cc) (hml : c.maxLocals = ls.size) (hts : ∀ w ∈ GW, w.before args s = true) (hown : s.vm.findClass own = some m.cls) (hK : KK D cI cJ s) (hP : va_P D vwCl ws H) (hD : va_D A ws) (hS : va_S A s.heap H locs) (hA : ∀ q : Nat, s.heap.size ≤ q → A q)
    (hM : MMv l y (.code y bytes maxL none) k mc ms As D cI cJ wc H.size post Wf) (hG : GoodIn GW (va_wsS own index y (.code y bytes maxL none :: GW))) (hd : y.cls ≠ "java/lang/invoke/MethodHandle" ∧ y.cls ≠ "java/lang/invoke/VarHandle" ∧ (parseMethodDescriptor y.desc).map (fun d => d.parameters.length) = some n) (hn : As.length = n)
    (hR : k + 1 ≤ R.frames ∧ 8 + (maxL + 11) + 64 * k ≤ R.locals) (hf : cells + mc ≤ R.cells ∧ slots + ms ≤ R.slots) (pl rl : List Nat) (hC : pl.map (fun i => ws[i]?) = wc.map some) (hRl : rl.map (fun i => ws[i]?) = wr.map some) (hn1 : va_nd pl = true) (hn2 : va_nd rl = true) (hdis : ∀ i ∈ rl, i ∉ pl) (hst : st = As.reverse ++ rest) (hW : (rest.map fun v => v.category).sum ≤ 8) (hdg : decode cc pc = .ok (.invokestatic index, 3))
    (kk : ∀ (u : S) (H1 : Heap) (locs1 : List Loc), post u → va_P D vwCl (wr ++ Wf u) H1 → va_D A (wr ++ Wf u) → va_S A s.heap H1 locs1 → W p l e R s m args below meth c H1 locs1 (cells + mc) (slots + ms) Q (F0 m (pc + 3) ls rest)) : W p l e R s m args below meth c H locs cells slots Q (F0 m pc ls st) :=
  MM_gov hP hD hS hA pl rl hC hRl hn2 hdis (va_runS (As := As) (rest := rest) (nL := ls.size) ⟨hexec, hb, hml, hown, hts⟩ hM (va_cwS n hts hG rfl rfl rfl hd hR) ⟨MPre_blind, MM_pre hK hP hD pl hC hn1 (fm_of hC)⟩ rfl hn rfl hst (lv_room hW) hdg hf) kk
/-- .. a constructor .. -/
theorem zm_I {y : MethodName} {bytes : ByteArray} {maxL index k n mc ms : Nat} {own : String} {b : Addr} {As : List Value} {ws wc wr : va_W} {S : Type} {post : S → Prop} {Wf : S → va_W} (hexec : p.tables.exec = Jvm.exec) (hb : c.code = cc) (hml : c.maxLocals = ls.size) (hts : ∀ w ∈ GW, w.before args s = true) (hown : s.vm.findClass own = some m.cls) (hK : KK D cI cJ s) (hP : va_P D vwCl ws H) (hD : va_D A ws) (hS : va_S A s.heap H locs) (hA : ∀ q : Nat, s.heap.size ≤ q → A q)
    (hM : MMv l y (.code y bytes maxL none) k mc ms (.ref b :: As) D cI cJ wc H.size post Wf) (hcd : Cond.code y bytes maxL none ∈ GW) (hini : Cond.initialized y.cls ∈ GW) (hlk : Cond.methodLink own index y ∈ GW) (hin : Cond.instanceMethod y ∈ GW) (hy1 : y.name = "<init>") (hd : y.cls ≠ "java/lang/invoke/MethodHandle" ∧ y.cls ≠ "java/lang/invoke/VarHandle" ∧ (parseMethodDescriptor y.desc).map (fun d => d.parameters.length) = some n) (hn : As.length = n)
    (hR : k + 1 ≤ R.frames ∧ 8 + (maxL + 11) + 64 * k ≤ R.locals) (hf : cells + mc ≤ R.cells ∧ slots + ms ≤ R.slots) (pl rl : List Nat) (hC : pl.map (fun i => ws[i]?) = wc.map some) (hRl : rl.map (fun i => ws[i]?) = wr.map some) (hn1 : va_nd pl = true) (hn2 : va_nd rl = true) (hdis : ∀ i ∈ rl, i ∉ pl) (hst : st = As.reverse ++ .ref b :: rest) (hW : (rest.map fun v => v.category).sum ≤ 8) (hdg : decode cc pc = .ok (.invokespecial index, 3))
    (kk : ∀ (u : S) (H1 : Heap) (locs1 : List Loc), post u → va_P D vwCl (wr ++ Wf u) H1 → va_D A (wr ++ Wf u) → va_S A s.heap H1 locs1 → W p l e R s m args below meth c H1 locs1 (cells + mc) (slots + ms) Q (F0 m (pc + 3) ls rest)) : W p l e R s m args below meth c H locs cells slots Q (F0 m pc ls st) :=
  MM_gov hP hD hS hA pl rl hC hRl hn2 hdis (va_runI (As := As) (rest := rest) (nL := ls.size) ⟨hexec, hb, hml, hown, hts⟩ hM (cwI n hts (gw_good (gw_cons hcd fun _ h => h)) rfl rfl rfl (hts _ hini) (hts _ hlk) (hts _ hin) hy1 hd hR) ⟨MPre_blind, MM_pre hK hP hD pl hC hn1 (fm_of hC)⟩ rfl hn rfl hst (lv_room hW) hdg hf) kk
/-- .. a private one of a nest mate -/
theorem zm_IN {y : MethodName} {bytes : ByteArray} {maxL index k n mc ms : Nat} {own : String} {b : Addr} {As : List Value} {ws wc wr : va_W} {S : Type} {post : S → Prop} {Wf : S → va_W} (hexec : p.tables.exec = Jvm.exec) (hb : c.code = cc) (hml : c.maxLocals = ls.size) (hts : ∀ w ∈ GW, w.before args s = true) (hown : s.vm.findClass own = some m.cls) (hK : KK D cI cJ s) (hP : va_P D vwCl ws H) (hD : va_D A ws) (hS : va_S A s.heap H locs) (hA : ∀ q : Nat, s.heap.size ≤ q → A q)
    (hM : MMv l y (.code y bytes maxL none) k mc ms (.ref b :: As) D cI cJ wc H.size post Wf) (hcd : Cond.code y bytes maxL none ∈ GW) (hini : Cond.initialized y.cls ∈ GW) (hnt : (own, index, y) ∈ nestT) (hin : Cond.instanceMethod y ∈ GW) (hy1 : y.name = "<init>") (hd : y.cls ≠ "java/lang/invoke/MethodHandle" ∧ y.cls ≠ "java/lang/invoke/VarHandle" ∧ (parseMethodDescriptor y.desc).map (fun d => d.parameters.length) = some n) (hn : As.length = n)
    (hR : k + 1 ≤ R.frames ∧ 8 + (maxL + 11) + 64 * k ≤ R.locals) (hf : cells + mc ≤ R.cells ∧ slots + ms ≤ R.slots) (pl rl : List Nat) (hC : pl.map (fun i => ws[i]?) = wc.map some) (hRl : rl.map (fun i => ws[i]?) = wr.map some) (hn1 : va_nd pl = true) (hn2 : va_nd rl = true) (hdis : ∀ i ∈ rl, i ∉ pl) (hst : st = As.reverse ++ .ref b :: rest) (hW : (rest.map fun v => v.category).sum ≤ 8) (hdg : decode cc pc = .ok (.invokespecial index, 3))
    (kk : ∀ (u : S) (H1 : Heap) (locs1 : List Loc), post u → va_P D vwCl (wr ++ Wf u) H1 → va_D A (wr ++ Wf u) → va_S A s.heap H1 locs1 → W p l e R s m args below meth c H1 locs1 (cells + mc) (slots + ms) Q (F0 m (pc + 3) ls rest)) : W p l e R s m args below meth c H locs cells slots Q (F0 m pc ls st) :=
  MM_gov hP hD hS hA pl rl hC hRl hn2 hdis (va_runIN (host := "Tetherline") (As := As) (rest := rest) (nL := ls.size) ⟨hexec, hb, hml, hown, hts⟩ hM ⟨va_cnB n hts (gw_good (gw_cons hcd fun _ h => h)) rfl rfl rfl (hK.2 _ hnt) (hts _ hini) hd hR, hy1, hts _ hin⟩ ⟨MPre_blind, MM_pre hK hP hD pl hC hn1 (fm_of hC)⟩ rfl hn rfl hst (lv_room hW) hdg hf) kk
/-- an int array is made -/
theorem zm_newa (hexec : p.tables.exec = Jvm.exec) (hb : c.code = cc) (harr : (Cond.arrayClass .int).before args s = true) (hK : KK D cI cJ s) {ws : va_W} (hP : va_P D vwCl ws H) (hD : va_D A ws) (hS : va_S A s.heap H locs) (hA : ∀ q : Nat, s.heap.size ≤ q → A q) {z : Int} {n : Nat} (hz : z = (n : Int)) (hn : n < 1000000) (hcells : cells + 1 ≤ R.cells) (hslots : slots + n ≤ R.slots) (hdg : decode cc pc = .ok (.newarray .int, 2))
    (kk : ∀ (q : Nat) (H1 : Heap), va_P D vwCl (ws ++ [(q, .inl (cI, n, .inl (aI (fun _ => 0))))]) H1 → va_D A (ws ++ [(q, .inl (cI, n, .inl (aI (fun _ => 0))))]) → va_S A s.heap H1 locs →
      W p l e R s m args below meth c H1 locs (cells + 1) (slots + n) Q (F0 m (pc + 2) ls (.ref q :: rest))) : W p l e R s m args below meth c H locs cells slots Q (F0 m pc ls (.int (iI z) :: rest)) := by
  have hr : InR z := ⟨by omega, by omega⟩
  refine va_newa (atype := .int) hexec hb harr rfl hK.1 hP hD hS hA (N' := n) (a0 := (n, .inl (aI (fun _ => 0)))) (fun cA => rfl) (fun h => ?_) ?_ (by show n * 4 ≤ 536870912; omega) hcells hslots hdg (fun q cA H1 k1 k2 k3 k4 => ?_)
  · have := (iI_lt hr ⟨by omega, by omega⟩).mp (show iI z < iI 0 by rw [iI_0]; exact h)
    omega
  · rw [iI_clamp (by omega) (by omega)]; omega
  · have e1 : s.vm.findClass ("[" ++ (FieldType.int).toString) = some cI := (hK.1.2 0 (cI, .int) rfl).2
    have e2 : s.vm.findClass ("[" ++ (FieldType.int).toString) = some cA := (k1.2 1 (cA, .int) rfl).2
    have e3 : cA = cI := Option.some.inj (e2.symm.trans e1)
    subst e3
    exact kk q H1 k2 k3 k4
end MC
theorem gd_vaS {own : String} {idx : Nat} {y : MethodName} {cd : Cond} (h1 : Cond.methodLink own idx y ∈ GW) (h2 : Cond.static y ∈ GW) (h4 : Cond.initialized y.cls ∈ GW) (h5 : cd ∈ GW) : GoodIn GW (va_wsS own idx y (cd :: GW)) :=
  gw_good (gw_cons h1 (gw_cons h2 (gw_cons h4 (gw_cons h5 fun _ h => h))))
end
section
theorem updZ_to {f : Nat → Int} {i v : Int} (hf : ∀ k : Nat, (k : Int) < i → f k = v) (h0 : 0 ≤ i) : ∀ k : Nat, (k : Int) < i + 1 → updZ f i.toNat v k = v := by
  intro k hk
  rcases jlt h0 hk with g | g
  · rw [updZ_n (by omega)]
    exact hf k g
  · rw [g]
    exact updZ_s _ _ _
/-- a Spread's cells hold a search's state -/
def SpOK (S : BS) (g h : Nat → Int) (ct : Int) : Prop := LenOK S.2.1 g ∧ ct = (S.1.length : Int) ∧ S.1.length ≤ 9163 ∧ ∀ j : Nat, j < S.1.length → h j = bsAt S j
theorem bsAt_push {S : BS} {q f : Int} (hc : q ≠ -1 ∧ S.2.1 q = -1) : (∀ j : Nat, j < S.1.length → bsAt (bsR S q f) j = bsAt S j) ∧ bsAt (bsR S q f) S.1.length = q ∧ (bsR S q f).1.length = S.1.length + 1 := by
  have e : bsR S q f = (S.1 ++ [q], fun z => if z = q then S.2.1 f + 1 else S.2.1 z, fun z => if z = q then f else S.2.2 z) := if_pos hc
  refine ⟨fun j hj => ?_, ?_, by rw [e]; simp⟩
  · unfold bsAt
    rw [e]
    show (S.1 ++ [q]).getD j 0 = S.1.getD j 0
    rw [List.getD_eq_getElem?_getD, List.getD_eq_getElem?_getD, List.getElem?_append_left hj]
  · unfold bsAt
    rw [e]
    show (S.1 ++ [q]).getD S.1.length 0 = q
    rw [List.getD_eq_getElem?_getD, List.getElem?_append_right (Nat.le_refl _)]
    simp
theorem SpOK_R {S : BS} {g h : Nat → Int} {ct a f : Int} (hS : SpOK S g h ct) (hc : a ≠ -1 ∧ S.2.1 a = -1) (ha0 : 0 ≤ a) (ha : a < 16807) (hf : 0 ≤ S.2.1 f) (hf2 : S.2.1 f < 19999) (hl : (bsR S a f).1.length ≤ 9163) : SpOK (bsR S a f) (updZ g a.toNat (S.2.1 f + 1)) (updZ h ct.toNat a) (ct + 1) := by
  obtain ⟨⟨h1, h2, h3⟩, h4, h5, h6⟩ := hS
  obtain ⟨p1, p2, p3⟩ := bsAt_push (f := f) hc
  have hD : ∀ z, (bsR S a f).2.1 z = if z = a then S.2.1 f + 1 else S.2.1 z := fun z => by rw [show bsR S a f = (S.1 ++ [a], fun z => if z = a then S.2.1 f + 1 else S.2.1 z, fun z => if z = a then f else S.2.2 z) from if_pos hc]
  refine ⟨⟨fun k hk => ?_, fun z => ?_, fun z hz => ?_⟩, by rw [p3, h4]; omega, hl, fun j hj => ?_⟩
  · rw [hD]
    by_cases hka : (k : Int) = a
    · rw [if_pos hka, show k = a.toNat by omega, updZ_s]
    · rw [if_neg hka, updZ_n (by omega)]
      exact h1 k hk
  · rw [hD]
    have := h2 z
    split <;> omega
  · rw [hD, if_neg (by omega)]
    exact h3 z hz
  · by_cases hj2 : j < S.1.length
    · rw [p1 j hj2, updZ_n (by omega)]
      exact h6 j hj2
    · rw [show j = S.1.length by omega, p2, show ct.toNat = S.1.length by omega, updZ_s]
theorem SpOK_0 {s : Int} {g h : Nat → Int} (hs0 : 0 ≤ s) (hs : s < 16807) (hg : ∀ k : Nat, k < 16807 → g k = -1) : SpOK (bs0 s) (updZ g s.toNat 0) (updZ h 0 s) 1 := by
  refine ⟨⟨fun k hk => ?_, fun z => ?_, fun z hz => ?_⟩, rfl, by show (1 : Nat) ≤ 9163; omega, fun j hj => ?_⟩
  · show updZ g s.toNat 0 k = if (k : Int) = s then 0 else -1
    by_cases hks : (k : Int) = s
    · rw [if_pos hks, show k = s.toNat by omega, updZ_s]
    · rw [if_neg hks, updZ_n (by omega)]
      exact hg k hk
  · show -1 ≤ (if z = s then (0 : Int) else -1) ∧ (if z = s then (0 : Int) else -1) < 20000
    split <;> omega
  · show (if z = s then (0 : Int) else -1) = -1
    rw [if_neg (by omega)]
  · have hj : j < 1 := hj
    rw [show j = 0 by omega]
    exact updZ_s _ _ _
theorem bsR_b {S : BS} {q f : Int} (h : ∀ z, S.2.1 z < (S.1.length : Int)) : ∀ z, (bsR S q f).2.1 z < ((bsR S q f).1.length : Int) := by
  intro z
  by_cases hc : q ≠ -1 ∧ S.2.1 q = -1
  · have e : bsR S q f = (S.1 ++ [q], fun z => if z = q then S.2.1 f + 1 else S.2.1 z, fun z => if z = q then f else S.2.2 z) := if_pos hc
    rw [e]
    show (if z = q then S.2.1 f + 1 else S.2.1 z) < ((S.1 ++ [q]).length : Int)
    rw [List.length_append]
    have h1 := h f
    have h2 := h z
    split <;> simp <;> omega
  · rw [bsR_no hc]
    exact h z
/-- the search goes on as it was to -/
theorem bsG_s {nb : Int → Int → Int} {n i : Nat} {S X : BS} (h : bsG nb (n + 1) i S = X) (hl : i < S.1.length) : bsG nb n (i + 1) (bsK nb S (bsAt S i) 4) = X := by
  rw [← h]
  show _ = if i < S.1.length then bsG nb n (i + 1) (bsK nb S (bsAt S i) 4) else S
  rw [if_pos hl]
theorem bsG_e {nb : Int → Int → Int} {n i : Nat} {S X : BS} (h : bsG nb n i S = X) (hl : n = 0 ∨ ¬ i < S.1.length) : S = X := by
  cases n with
  | zero => exact h
  | succ n =>
    rw [← h]
    show S = if i < S.1.length then bsG nb n (i + 1) (bsK nb S (bsAt S i) 4) else S
    rw [if_neg (by omega)]
theorem bsF_s {nb : Int → Int → Int} {q : Int} {n i : Nat} {S : BS} {X : Int × BS} (h : bsF nb q (n + 1) i S = X) (hl : i < S.1.length) (hq : ¬ bsAt S i / 343 = q) : bsF nb q n (i + 1) (bsK nb S (bsAt S i) 4) = X := by
  rw [← h]
  show _ = if i < S.1.length then (if bsAt S i / 343 = q then (bsAt S i, S) else bsF nb q n (i + 1) (bsK nb S (bsAt S i) 4)) else (-1, S)
  rw [if_pos hl, if_neg hq]
theorem bsF_q {nb : Int → Int → Int} {q : Int} {n i : Nat} {S : BS} {X : Int × BS} (h : bsF nb q n i S = X) (hn : n ≠ 0) (hl : i < S.1.length) (hq : bsAt S i / 343 = q) : X = (bsAt S i, S) := by
  cases n with
  | zero => exact absurd rfl hn
  | succ n =>
    rw [← h]
    show (if i < S.1.length then (if bsAt S i / 343 = q then (bsAt S i, S) else bsF nb q n (i + 1) (bsK nb S (bsAt S i) 4)) else (-1, S)) = _
    rw [if_pos hl, if_pos hq]
theorem bsF_e {nb : Int → Int → Int} {q : Int} {n i : Nat} {S : BS} {X : Int × BS} (h : bsF nb q n i S = X) (hl : n = 0 ∨ ¬ i < S.1.length) : X = (-1, S) := by
  cases n with
  | zero => exact h.symm
  | succ n =>
    rw [← h]
    show (if i < S.1.length then (if bsAt S i / 343 = q then (bsAt S i, S) else bsF nb q n (i + 1) (bsK nb S (bsAt S i) 4)) else (-1, S)) = _
    rw [if_neg (by omega)]
theorem astZ_gd {C R np : Int} {N L : Int → Int} {gn : Nat → Int} (hF : FlOK C R np N gn) {lim z d : Int} (hz : GdZ C R N z) (hd0 : 0 ≤ d) (hd : d ≤ 3) (h : astZ C R N L lim z d ≠ -1) : GdZ C R N (astZ C R N L lim z d) := by
  unfold astZ at h ⊢
  split at h
  · rename_i hc
    rw [if_pos hc]
    exact (aftZ_back hF hz hd0 hd h).1
  · exact absurd rfl h
theorem astZ_b {C R np : Int} {N L : Int → Int} {gn : Nat → Int} (hF : FlOK C R np N gn) {lim z d : Int} (h0 : 0 ≤ z) (h1 : z < 16807) (h2 : z / 343 % 7 < R) : -1 ≤ astZ C R N L lim z d ∧ astZ C R N L lim z d < 16807 := by
  have := aftZ_b hF (d := d) h0 h1 h2
  unfold astZ
  split <;> omega
end
section
set_option maxRecDepth 100000 in
set_option maxHeartbeats 4000000 in
theorem c_J7_fill_53178 (l : Launch) (D : va_G) (cI cJ : ClassId) (fa fn : Nat) (fv : Int) (fg : Nat → Int) (hfn : fn < 1000000) (sz : Nat) : MMv l yJ7_fill_53178 (.code yJ7_fill_53178 cJ7_fill_53178 4 none) 0 0 0 [.ref fa, .int (iI fv)] D cI cJ [(fa, .inl (cI, fn, .inl (aI fg)))] sz (fun (u : (Nat → Int)) => ∀ k : Nat, k < fn → u k = fv) (fun u : (Nat → Int) => [(fa, .inl (cI, fn, .inl (aI u)))]) := by
  refine MM_of (Qc := fun A => QMv D A (fun (u : (Nat → Int)) => ∀ k : Nat, k < fn → u k = fv) (fun u : (Nat → Int) => [(fa, .inl (cI, fn, .inl (aI u)))])) (by decide) rfl (Nat.le_of_ble_eq_true rfl) (fun p e s m below meth c ls A hx hb hr hts hown hlk hml hin hK hP hD hA hS hl => ?_)
  have hl : lv_has ls 4 [(0, .ref fa), (1, .int (iI fv))] := hl
  refine zv_iconst hx hb dJ7_fill_53178_0 ?_
  refine lv_istore_n (lv' := [(2, .int (iI 0)), (0, .ref fa), (1, .int (iI fv))]) hx hb dJ7_fill_53178_1 rfl hl (by decide) rfl (fun ls hl => ?_)
  refine lv_aload_n hx hb dJ7_fill_53178_2 rfl (lv_at hl 1 rfl) ?_
  refine zv_alen hx hb hK.1 hP 0 0 rfl rfl dJ7_fill_53178_3 ?_
  refine lv_istore_n (lv' := [(3, .int (iI fn)), (2, .int (iI 0)), (0, .ref fa), (1, .int (iI fv))]) hx hb dJ7_fill_53178_4 rfl hl (by decide) rfl (fun ls hl => ?_)
  have loop5 : ∀ (nn : Nat) (i : Int) (f : Nat → Int), (0 ≤ i) → (i ≤ fn) → (∀ k : Nat, (k : Int) < i → f k = fv) → ((fn : Int) - i < (nn : Int)) → ∀ (H : Heap) (locs : List Loc), va_P D vwCl [(fa, .inl (cI, fn, .inl (aI f)))] H → va_D A [(fa, .inl (cI, fn, .inl (aI f)))] → va_S A s.heap H locs → ∀ ls : Array Slot, lv_has ls 4 [(0, .ref fa), (1, .int (iI fv)), (2, .int (iI i)), (3, .int (iI fn))] → W p l e (rmM 0 0 0) s m [.ref fa, .int (iI fv)].toArray below meth c H locs 0 0 (MQ below (QMv D A (fun (u : (Nat → Int)) => ∀ k : Nat, k < fn → u k = fv) (fun u : (Nat → Int) => [(fa, .inl (cI, fn, .inl (aI u)))])) [.ref fa, .int (iI fv)].toArray s 0 0 A) (F0 m 5 ls []) := by
    intro nn
    induction nn with
    | zero => intro i f hi0 hi1 hf hms; exfalso; omega
    | succ nn ih5 =>
      intro i f hi0 hi1 hf hms H locs hP hD hS ls hl
      refine lv_iload_n hx hb dJ7_fill_53178_5 rfl (lv_at hl 2 rfl) ?_
      refine lv_iload_n hx hb dJ7_fill_53178_6 rfl (lv_at hl 3 rfl) ?_
      refine zv_icmp_ge hx hb dJ7_fill_53178_7 (tgt := 20) (by decide) ⟨by omega, by omega⟩ ⟨by omega, by omega⟩ (fun c_1 => ?_) (fun c_1 => ?_)
      · exact MM_vret (f) hx hb hr hlk hP hD hS (Nat.le_of_ble_eq_true rfl) (Nat.le_of_ble_eq_true rfl) dJ7_fill_53178_20 (fun k hk => hf k (by omega))
      · refine lv_aload_n hx hb dJ7_fill_53178_10 rfl (lv_at hl 0 rfl) ?_
        refine lv_iload_n hx hb dJ7_fill_53178_11 rfl (lv_at hl 2 rfl) ?_
        refine lv_iload_n hx hb dJ7_fill_53178_12 rfl (lv_at hl 1 rfl) ?_
        refine zv_iast hx hb hK.1 hP hD hS 0 0 rfl rfl (by omega) (by omega) (by omega) (ws' := [(fa, .inl (cI, fn, .inl (aI (updZ f (i).toNat fv))))]) rfl dJ7_fill_53178_13 (fun H locs hP hD hS => ?_)
        refine zv_iinc (k := 2) (lv' := [(2, .int (iI (i + 1))), (0, .ref fa), (1, .int (iI fv)), (3, .int (iI fn))]) hx hb dJ7_fill_53178_14 hl rfl (by decide) rfl (fun ls hl => ?_)
        refine lv_goto (tgt := 5) hx hb dJ7_fill_53178_17 (by decide) ?_
        exact ih5 (i + 1) (updZ f (i).toNat fv) (by omega) (by omega) (updZ_to hf (by omega)) (by omega) _ _ hP hD hS ls (lv_sub hl [1, 2, 0, 3] rfl)
  exact loop5 (fn + 1) 0 fg (by omega) (by omega) (fun k hk => absurd hk (by omega)) (by omega) _ _ hP hD hS ls (lv_sub hl [2, 3, 1, 0] rfl)
set_option maxRecDepth 100000 in
set_option maxHeartbeats 4000000 in
theorem c_X1_add (l : Launch) (D : va_G) (cI cJ : ClassId) (sp da ra : Nat) (ct : Int) (g h : Nat → Int) (a x : Int) (ha1 : -1 ≤ a) (ha2 : a < 16807) (hc1 : 0 ≤ ct) (hc2 : a < 0 ∨ ct < 9163) (hc3 : ct ≤ 9163) (sz : Nat) : MMv l yX1_add (.code yX1_add cX1_add 3 none) 0 0 0 [.ref sp, .int (iI a), .int (iI x)] D cI cJ [(sp, .inr (1, [.ref da, .ref ra, .int (iI ct)])), (da, .inl (cI, 16807, .inl (aI g))), (ra, .inl (cI, 9163, .inl (aI h)))] sz (fun (u : (Nat → Int) × (Nat → Int) × Int) => (a < 0 ∧ u.1 = g ∧ u.2.1 = h ∧ u.2.2 = ct) ∨ (0 ≤ a ∧ u.1 = updZ g (a).toNat x ∧ u.2.1 = updZ h (ct).toNat a ∧ u.2.2 = ct + 1)) (fun u : (Nat → Int) × (Nat → Int) × Int => [(sp, .inr (1, [.ref da, .ref ra, .int (iI u.2.2)])), (da, .inl (cI, 16807, .inl (aI u.1))), (ra, .inl (cI, 9163, .inl (aI u.2.1)))]) := by
  refine MM_of (Qc := fun A => QMv D A (fun (u : (Nat → Int) × (Nat → Int) × Int) => (a < 0 ∧ u.1 = g ∧ u.2.1 = h ∧ u.2.2 = ct) ∨ (0 ≤ a ∧ u.1 = updZ g (a).toNat x ∧ u.2.1 = updZ h (ct).toNat a ∧ u.2.2 = ct + 1)) (fun u : (Nat → Int) × (Nat → Int) × Int => [(sp, .inr (1, [.ref da, .ref ra, .int (iI u.2.2)])), (da, .inl (cI, 16807, .inl (aI u.1))), (ra, .inl (cI, 9163, .inl (aI u.2.1)))])) (by decide) rfl (Nat.le_of_ble_eq_true rfl) (fun p e s m below meth c ls A hx hb hr hts hown hlk hml hin hK hP hD hA hS hl => ?_)
  have hl : lv_has ls 3 [(0, .ref sp), (1, .int (iI a)), (2, .int (iI x))] := hl
  refine lv_iload_n hx hb dX1_add_0 rfl (lv_at hl 1 rfl) ?_
  refine zv_if_lt hx hb dX1_add_1 (tgt := 59) (by decide) ⟨by omega, by omega⟩ (fun c_1 => ?_) (fun c_1 => ?_)
  · exact MM_vret (g, h, ct) hx hb hr hlk hP hD hS (Nat.le_of_ble_eq_true rfl) (Nat.le_of_ble_eq_true rfl) dX1_add_59 (by first | exact Or.inl ⟨by omega, rfl, rfl, rfl⟩ | exact Or.inr ⟨by omega, rfl, rfl, rfl⟩)
  · refine lv_iload_n hx hb dX1_add_4 rfl (lv_at hl 1 rfl) ?_
    refine lv_aload_n hx hb dX1_add_5 rfl (lv_at hl 0 rfl) ?_
    refine va_get (D := D) (ci := 1) (v := .ref da) (C := RX1) (T := TX1) (N := 3) hx hb hts uX1 hown hK.1 hP 0 rfl rfl 0 (by decide) (hts _ q_28) (fun _ h9 => h9) rfl dX1_add_6 ?_
    refine zv_alen hx hb hK.1 hP 1 0 rfl rfl dX1_add_9 ?_
    refine zv_icmp_ge hx hb dX1_add_10 (tgt := 59) (by decide) ⟨by omega, by omega⟩ ⟨by omega, by omega⟩ (fun c_2 => by exfalso; omega) (fun c_2 => ?_)
    refine lv_aload_n hx hb dX1_add_13 rfl (lv_at hl 0 rfl) ?_
    refine va_get (D := D) (ci := 1) (v := .int (iI ct)) (C := RX1) (T := TX1) (N := 3) hx hb hts uX1 hown hK.1 hP 0 rfl rfl 2 (by decide) (hts _ q_30) (fun _ h9 => h9) rfl dX1_add_14 ?_
    refine zv_if_lt hx hb dX1_add_17 (tgt := 59) (by decide) ⟨by omega, by omega⟩ (fun c_3 => by exfalso; omega) (fun c_3 => ?_)
    refine lv_aload_n hx hb dX1_add_20 rfl (lv_at hl 0 rfl) ?_
    refine va_get (D := D) (ci := 1) (v := .int (iI ct)) (C := RX1) (T := TX1) (N := 3) hx hb hts uX1 hown hK.1 hP 0 rfl rfl 2 (by decide) (hts _ q_30) (fun _ h9 => h9) rfl dX1_add_21 ?_
    refine lv_aload_n hx hb dX1_add_24 rfl (lv_at hl 0 rfl) ?_
    refine va_get (D := D) (ci := 1) (v := .ref ra) (C := RX1) (T := TX1) (N := 3) hx hb hts uX1 hown hK.1 hP 0 rfl rfl 1 (by decide) (hts _ q_29) (fun _ h9 => h9) rfl dX1_add_25 ?_
    refine zv_alen hx hb hK.1 hP 2 0 rfl rfl dX1_add_28 ?_
    refine zv_icmp_ge hx hb dX1_add_29 (tgt := 59) (by decide) ⟨by omega, by omega⟩ ⟨by omega, by omega⟩ (fun c_4 => by exfalso; omega) (fun c_4 => ?_)
    refine lv_aload_n hx hb dX1_add_32 rfl (lv_at hl 0 rfl) ?_
    refine va_get (D := D) (ci := 1) (v := .ref da) (C := RX1) (T := TX1) (N := 3) hx hb hts uX1 hown hK.1 hP 0 rfl rfl 0 (by decide) (hts _ q_28) (fun _ h9 => h9) rfl dX1_add_33 ?_
    refine lv_iload_n hx hb dX1_add_36 rfl (lv_at hl 1 rfl) ?_
    refine lv_iload_n hx hb dX1_add_37 rfl (lv_at hl 2 rfl) ?_
    refine zv_iast hx hb hK.1 hP hD hS 1 0 rfl rfl (by omega) (by omega) (by omega) (ws' := [(sp, .inr (1, [.ref da, .ref ra, .int (iI ct)])), (da, .inl (cI, 16807, .inl (aI (updZ g (a).toNat x)))), (ra, .inl (cI, 9163, .inl (aI h)))]) rfl dX1_add_38 (fun H locs hP hD hS => ?_)
    refine lv_aload_n hx hb dX1_add_39 rfl (lv_at hl 0 rfl) ?_
    refine va_get (D := D) (ci := 1) (v := .ref ra) (C := RX1) (T := TX1) (N := 3) hx hb hts uX1 hown hK.1 hP 0 rfl rfl 1 (by decide) (hts _ q_29) (fun _ h9 => h9) rfl dX1_add_40 ?_
    refine lv_aload_n hx hb dX1_add_43 rfl (lv_at hl 0 rfl) ?_
    refine va_get (D := D) (ci := 1) (v := .int (iI ct)) (C := RX1) (T := TX1) (N := 3) hx hb hts uX1 hown hK.1 hP 0 rfl rfl 2 (by decide) (hts _ q_30) (fun _ h9 => h9) rfl dX1_add_44 ?_
    refine lv_iload_n hx hb dX1_add_47 rfl (lv_at hl 1 rfl) ?_
    refine zv_iast hx hb hK.1 hP hD hS 2 0 rfl rfl (by omega) (by omega) (by omega) (ws' := [(sp, .inr (1, [.ref da, .ref ra, .int (iI ct)])), (da, .inl (cI, 16807, .inl (aI (updZ g (a).toNat x)))), (ra, .inl (cI, 9163, .inl (aI (updZ h (ct).toNat a))))]) rfl dX1_add_48 (fun H locs hP hD hS => ?_)
    refine lv_aload_n hx hb dX1_add_49 rfl (lv_at hl 0 rfl) ?_
    refine lv_dup hx hb dX1_add_50 rfl ?_
    refine va_get (D := D) (ci := 1) (v := .int (iI ct)) (C := RX1) (T := TX1) (N := 3) hx hb hts uX1 hown hK.1 hP 0 rfl rfl 2 (by decide) (hts _ q_30) (fun _ h9 => h9) rfl dX1_add_51 ?_
    refine zv_iconst hx hb dX1_add_54 ?_
    refine zv_iadd hx hb dX1_add_55 ?_
    refine va_put (D := D) (ci := 1) (v := .int (iI (ct + 1))) (ty := .int) (C := RX1) (T := TX1) (N := 3) hx hb hts uX1 tyX1 tyX1_ok nmX1 hown hK.1 hP hD hS 0 rfl rfl 2 (by decide) (hts _ q_30) (fun _ h9 => h9) rfl (by decide +kernel) rfl rfl (Nat.le_of_ble_eq_true rfl) dX1_add_56 (fun H locs hP hD hS => ?_)
    have hP : va_P D vwCl [(sp, .inr (1, [.ref da, .ref ra, .int (iI (ct + 1))])), (da, .inl (cI, 16807, .inl (aI (updZ g (a).toNat x)))), (ra, .inl (cI, 9163, .inl (aI (updZ h (ct).toNat a))))] H := hP
    have hD : va_D A [(sp, .inr (1, [.ref da, .ref ra, .int (iI (ct + 1))])), (da, .inl (cI, 16807, .inl (aI (updZ g (a).toNat x)))), (ra, .inl (cI, 9163, .inl (aI (updZ h (ct).toNat a))))] := hD
    exact MM_vret ((updZ g (a).toNat x), (updZ h (ct).toNat a), (ct + 1)) hx hb hr hlk hP hD hS (Nat.le_of_ble_eq_true rfl) (Nat.le_of_ble_eq_true rfl) dX1_add_59 (by first | exact Or.inl ⟨by omega, rfl, rfl, rfl⟩ | exact Or.inr ⟨by omega, rfl, rfl, rfl⟩)
set_option maxRecDepth 100000 in
set_option maxHeartbeats 4000000 in
theorem c_X1_reach (l : Launch) (D : va_G) (cI cJ : ClassId) (sp da ra : Nat) (ct : Int) (g h : Nat → Int) (a f : Int) (S : BS) (hsp : SpOK S g h ct) (ha1 : -1 ≤ a) (ha2 : a < 16807) (hf0 : 0 ≤ f) (hf1 : f < 16807) (hfD : 0 ≤ S.2.1 f) (hfE : S.2.1 f < 19999) (hln : (bsR S a f).1.length ≤ 9163) (sz : Nat) : MMv l yX1_reach (.code yX1_reach cX1_reach 3 none) 1 0 0 [.ref sp, .int (iI a), .int (iI f)] D cI cJ [(sp, .inr (1, [.ref da, .ref ra, .int (iI ct)])), (da, .inl (cI, 16807, .inl (aI g))), (ra, .inl (cI, 9163, .inl (aI h)))] sz (fun (u : (Nat → Int) × (Nat → Int) × Int) => SpOK (bsR S a f) u.1 u.2.1 u.2.2) (fun u : (Nat → Int) × (Nat → Int) × Int => [(sp, .inr (1, [.ref da, .ref ra, .int (iI u.2.2)])), (da, .inl (cI, 16807, .inl (aI u.1))), (ra, .inl (cI, 9163, .inl (aI u.2.1)))]) := by
  have hL := hsp.1
  have hLa := hL.b a
  obtain ⟨-, hct, hln0, -⟩ := id hsp
  refine MM_of (Qc := fun A => QMv D A (fun (u : (Nat → Int) × (Nat → Int) × Int) => SpOK (bsR S a f) u.1 u.2.1 u.2.2) (fun u : (Nat → Int) × (Nat → Int) × Int => [(sp, .inr (1, [.ref da, .ref ra, .int (iI u.2.2)])), (da, .inl (cI, 16807, .inl (aI u.1))), (ra, .inl (cI, 9163, .inl (aI u.2.1)))])) (by decide) rfl (Nat.le_of_ble_eq_true rfl) (fun p e s m below meth c ls A hx hb hr hts hown hlk hml hin hK hP hD hA hS hl => ?_)
  have hl : lv_has ls 3 [(0, .ref sp), (1, .int (iI a)), (2, .int (iI f))] := hl
  refine lv_aload_n hx hb dX1_reach_0 rfl (lv_at hl 0 rfl) ?_
  refine lv_iload_n hx hb dX1_reach_1 rfl (lv_at hl 1 rfl) ?_
  refine zc_V (As := [.int (iI a)]) (rest := []) (ws := [(sp, .inr (1, [.ref da, .ref ra, .int (iI ct)])), (da, .inl (cI, 16807, .inl (aI g))), (ra, .inl (cI, 9163, .inl (aI h)))]) (n := 1) hx hb (hml.trans hl.1.symm) hts hown hK hP (c_X1_distanceOf l D cI cJ sp da ra ct g S.2.1 a hL (by omega) (by omega)) (gd_V q_153 q_154 q_155 q_2 q_156) (by decide +kernel) rfl ⟨Nat.le_of_ble_eq_true rfl, Nat.le_of_ble_eq_true rfl⟩ ⟨Nat.le_of_ble_eq_true rfl, Nat.le_of_ble_eq_true rfl⟩ [0, 1] rfl 0 (ci := 1) rfl rfl rfl rfl (Nat.le_of_ble_eq_true rfl) dX1_reach_2 (fun r_1 hr_1 => ?_)
  subst r_1
  refine zv_iconst hx hb dX1_reach_5 ?_
  refine zv_icmp_ne hx hb dX1_reach_6 (tgt := 21) (by decide) ⟨by omega, by omega⟩ ⟨by omega, by omega⟩ (fun c_2 => ?_) (fun c_2 => ?_)
  · exact MM_vret (g, h, ct) hx hb hr hlk hP hD hS (Nat.le_of_ble_eq_true rfl) (Nat.le_of_ble_eq_true rfl) dX1_reach_21 (by rw [bsR_no (by omega)]; exact hsp)
  · have hcl : a < 0 ∨ ct < 9163 := by
      by_cases h9 : a < 0
      · exact Or.inl h9
      · have := (bsAt_push (S := S) (q := a) (f := f) ⟨by omega, by assumption⟩).2.2
        right; omega
    refine lv_aload_n hx hb dX1_reach_9 rfl (lv_at hl 0 rfl) ?_
    refine lv_iload_n hx hb dX1_reach_10 rfl (lv_at hl 1 rfl) ?_
    refine lv_aload_n hx hb dX1_reach_11 rfl (lv_at hl 0 rfl) ?_
    refine lv_iload_n hx hb dX1_reach_12 rfl (lv_at hl 2 rfl) ?_
    refine zc_V (As := [.int (iI f)]) (rest := [.int (iI a), .ref sp]) (ws := [(sp, .inr (1, [.ref da, .ref ra, .int (iI ct)])), (da, .inl (cI, 16807, .inl (aI g))), (ra, .inl (cI, 9163, .inl (aI h)))]) (n := 1) hx hb (hml.trans hl.1.symm) hts hown hK hP (c_X1_distanceOf l D cI cJ sp da ra ct g S.2.1 f hL (by omega) (by omega)) (gd_V q_153 q_154 q_155 q_2 q_156) (by decide +kernel) rfl ⟨Nat.le_of_ble_eq_true rfl, Nat.le_of_ble_eq_true rfl⟩ ⟨Nat.le_of_ble_eq_true rfl, Nat.le_of_ble_eq_true rfl⟩ [0, 1] rfl 0 (ci := 1) rfl rfl rfl rfl (Nat.le_of_ble_eq_true rfl) dX1_reach_13 (fun r_3 hr_3 => ?_)
    subst r_3
    refine zv_iconst hx hb dX1_reach_16 ?_
    refine zv_iadd hx hb dX1_reach_17 ?_
    refine zm_Vv (As := [.int (iI a), .int (iI (S.2.1 f + 1))]) (rest := []) (ws := [(sp, .inr (1, [.ref da, .ref ra, .int (iI ct)])), (da, .inl (cI, 16807, .inl (aI g))), (ra, .inl (cI, 9163, .inl (aI h)))]) (wr := []) (n := 2) hx hb (hml.trans hl.1.symm) hts hown hK hP hD hS hA (c_X1_add l D cI cJ sp da ra ct g h a (S.2.1 f + 1) (by omega) (by omega) (by omega) (by omega) (by omega) _) (gd_V q_85 q_87 q_1001 q_2 q_88) (by decide +kernel) rfl ⟨Nat.le_of_ble_eq_true rfl, Nat.le_of_ble_eq_true rfl⟩ ⟨Nat.le_of_ble_eq_true rfl, Nat.le_of_ble_eq_true rfl⟩ [0, 1, 2] [] rfl rfl (by decide) (by decide) (by decide) 0 (ci := 1) rfl rfl rfl rfl (Nat.le_of_ble_eq_true rfl) dX1_reach_18 (fun u H locs hq_4 hP hD hS => ?_)
    obtain ⟨g9, h9, c9⟩ := u
    have hP := hP.sub (ws' := [(sp, .inr (1, [.ref da, .ref ra, .int (iI c9)])), (da, .inl (cI, 16807, .inl (aI g9))), (ra, .inl (cI, 9163, .inl (aI h9)))]) [0, 1, 2] rfl
    have hD := hD.sub (ws' := [(sp, .inr (1, [.ref da, .ref ra, .int (iI c9)])), (da, .inl (cI, 16807, .inl (aI g9))), (ra, .inl (cI, 9163, .inl (aI h9)))]) [0, 1, 2] (by decide) rfl
    try dsimp only at hq_4
    have hadd := hq_4
    exact MM_vret (g9, h9, c9) hx hb hr hlk hP hD hS (Nat.le_of_ble_eq_true rfl) (Nat.le_of_ble_eq_true rfl) dX1_reach_21 (by rcases hadd with ⟨q1, rfl, rfl, rfl⟩ | ⟨q1, rfl, rfl, rfl⟩ <;> first | (rw [bsR_no (by omega)]; exact hsp) | exact SpOK_R hsp ⟨by omega, by assumption⟩ (by omega) (by omega) hfD hfE hln)
set_option maxRecDepth 100000 in
set_option maxHeartbeats 4000000 in
theorem c_X1_begin (l : Launch) (D : va_G) (cI cJ : ClassId) (sp da ra : Nat) (ct : Int) (g h : Nat → Int) (a : Int) (ha0 : 0 ≤ a) (ha1 : a < 16807) (sz : Nat) : MMv l yX1_begin (.code yX1_begin cX1_begin 2 none) 1 0 0 [.ref sp, .int (iI a)] D cI cJ [(sp, .inr (1, [.ref da, .ref ra, .int (iI ct)])), (da, .inl (cI, 16807, .inl (aI g))), (ra, .inl (cI, 9163, .inl (aI h)))] sz (fun (u : (Nat → Int) × (Nat → Int) × Int) => SpOK (bs0 a) u.1 u.2.1 u.2.2) (fun u : (Nat → Int) × (Nat → Int) × Int => [(sp, .inr (1, [.ref da, .ref ra, .int (iI u.2.2)])), (da, .inl (cI, 16807, .inl (aI u.1))), (ra, .inl (cI, 9163, .inl (aI u.2.1)))]) := by
  refine MM_of (Qc := fun A => QMv D A (fun (u : (Nat → Int) × (Nat → Int) × Int) => SpOK (bs0 a) u.1 u.2.1 u.2.2) (fun u : (Nat → Int) × (Nat → Int) × Int => [(sp, .inr (1, [.ref da, .ref ra, .int (iI u.2.2)])), (da, .inl (cI, 16807, .inl (aI u.1))), (ra, .inl (cI, 9163, .inl (aI u.2.1)))])) (by decide) rfl (Nat.le_of_ble_eq_true rfl) (fun p e s m below meth c ls A hx hb hr hts hown hlk hml hin hK hP hD hA hS hl => ?_)
  have hl : lv_has ls 2 [(0, .ref sp), (1, .int (iI a))] := hl
  refine lv_aload_n hx hb dX1_begin_0 rfl (lv_at hl 0 rfl) ?_
  refine va_get (D := D) (ci := 1) (v := .ref da) (C := RX1) (T := TX1) (N := 3) hx hb hts uX1 hown hK.1 hP 0 rfl rfl 0 (by decide) (hts _ q_28) (fun _ h9 => h9) rfl dX1_begin_1 ?_
  refine zv_iconst hx hb dX1_begin_4 ?_
  refine zm_Sv (As := [.ref da, .int (iI (-1))]) (rest := []) (ws := [(sp, .inr (1, [.ref da, .ref ra, .int (iI ct)])), (da, .inl (cI, 16807, .inl (aI g))), (ra, .inl (cI, 9163, .inl (aI h)))]) (wr := [(sp, .inr (1, [.ref da, .ref ra, .int (iI ct)])), (ra, .inl (cI, 9163, .inl (aI h)))]) (n := 2) hx hb (hml.trans hl.1.symm) hts hown hK hP hD hS hA (c_J7_fill_53178 l D cI cJ da 16807 (-1) g (Nat.le_of_ble_eq_true rfl) _) (gd_vaS q_84 q_55 q_5 q_56) (by decide +kernel) rfl ⟨Nat.le_of_ble_eq_true rfl, Nat.le_of_ble_eq_true rfl⟩ ⟨Nat.le_of_ble_eq_true rfl, Nat.le_of_ble_eq_true rfl⟩ [1] [0, 2] rfl rfl (by decide) (by decide) (by decide) rfl (Nat.le_of_ble_eq_true rfl) dX1_begin_5 (fun u H locs hq_1 hP hD hS => ?_)
  obtain ⟨g8, rfl⟩ : ∃ z, z = u := ⟨_, rfl⟩
  have hP := hP.sub (ws' := [(sp, .inr (1, [.ref da, .ref ra, .int (iI ct)])), (da, .inl (cI, 16807, .inl (aI g8))), (ra, .inl (cI, 9163, .inl (aI h)))]) [0, 2, 1] rfl
  have hD := hD.sub (ws' := [(sp, .inr (1, [.ref da, .ref ra, .int (iI ct)])), (da, .inl (cI, 16807, .inl (aI g8))), (ra, .inl (cI, 9163, .inl (aI h)))]) [0, 2, 1] (by decide) rfl
  try dsimp only at hq_1
  have hfill := hq_1
  refine lv_aload_n hx hb dX1_begin_8 rfl (lv_at hl 0 rfl) ?_
  refine zv_iconst hx hb dX1_begin_9 ?_
  refine va_put (D := D) (ci := 1) (v := .int (iI 0)) (ty := .int) (C := RX1) (T := TX1) (N := 3) hx hb hts uX1 tyX1 tyX1_ok nmX1 hown hK.1 hP hD hS 0 rfl rfl 2 (by decide) (hts _ q_30) (fun _ h9 => h9) rfl (by decide +kernel) rfl rfl (Nat.le_of_ble_eq_true rfl) dX1_begin_10 (fun H locs hP hD hS => ?_)
  have hP : va_P D vwCl [(sp, .inr (1, [.ref da, .ref ra, .int (iI 0)])), (da, .inl (cI, 16807, .inl (aI g8))), (ra, .inl (cI, 9163, .inl (aI h)))] H := hP
  have hD : va_D A [(sp, .inr (1, [.ref da, .ref ra, .int (iI 0)])), (da, .inl (cI, 16807, .inl (aI g8))), (ra, .inl (cI, 9163, .inl (aI h)))] := hD
  refine lv_aload_n hx hb dX1_begin_13 rfl (lv_at hl 0 rfl) ?_
  refine lv_iload_n hx hb dX1_begin_14 rfl (lv_at hl 1 rfl) ?_
  refine zv_iconst hx hb dX1_begin_15 ?_
  refine zm_Vv (As := [.int (iI a), .int (iI 0)]) (rest := []) (ws := [(sp, .inr (1, [.ref da, .ref ra, .int (iI 0)])), (da, .inl (cI, 16807, .inl (aI g8))), (ra, .inl (cI, 9163, .inl (aI h)))]) (wr := []) (n := 2) hx hb (hml.trans hl.1.symm) hts hown hK hP hD hS hA (c_X1_add l D cI cJ sp da ra 0 g8 h a 0 (by omega) (by omega) (by omega) (by omega) (by omega) _) (gd_V q_85 q_87 q_1001 q_2 q_88) (by decide +kernel) rfl ⟨Nat.le_of_ble_eq_true rfl, Nat.le_of_ble_eq_true rfl⟩ ⟨Nat.le_of_ble_eq_true rfl, Nat.le_of_ble_eq_true rfl⟩ [0, 1, 2] [] rfl rfl (by decide) (by decide) (by decide) 0 (ci := 1) rfl rfl rfl rfl (Nat.le_of_ble_eq_true rfl) dX1_begin_16 (fun u H locs hq_3 hP hD hS => ?_)
  obtain ⟨g9, h9, c9⟩ := u
  have hP := hP.sub (ws' := [(sp, .inr (1, [.ref da, .ref ra, .int (iI c9)])), (da, .inl (cI, 16807, .inl (aI g9))), (ra, .inl (cI, 9163, .inl (aI h9)))]) [0, 1, 2] rfl
  have hD := hD.sub (ws' := [(sp, .inr (1, [.ref da, .ref ra, .int (iI c9)])), (da, .inl (cI, 16807, .inl (aI g9))), (ra, .inl (cI, 9163, .inl (aI h9)))]) [0, 1, 2] (by decide) rfl
  try dsimp only at hq_3
  have hadd := hq_3
  exact MM_vret (g9, h9, c9) hx hb hr hlk hP hD hS (Nat.le_of_ble_eq_true rfl) (Nat.le_of_ble_eq_true rfl) dX1_begin_19 (by rcases hadd with ⟨q1, -⟩ | ⟨-, rfl, rfl, rfl⟩ <;> first | (exfalso; omega) | exact SpOK_0 ha0 ha1 hfill)
set_option maxRecDepth 100000 in
set_option maxHeartbeats 4000000 in
theorem c_X2_measureLengths (l : Launch) (D : va_G) (cI cJ : ClassId) (tt fl s1 s2 pn d1 r1 : Nat) (lim bs P sm C R np c1 : Int) (gn g1 h1 : Nat → Int) (N : Int → Int) (hF : FlOK C R np N gn) (hbs : GdZ C R N (bs * 343)) (sz : Nat) : MMv l yX2_measureLengths (.code yX2_measureLengths cX2_measureLengths 4 none) 5 0 0 [.ref tt] D cI cJ [(tt, .inr (2, [.ref fl, .int (iI lim), .ref s1, .ref s2, .int (iI bs), .int (iI P), .int (iI sm)])), (fl, .inr (0, [.int (iI C), .int (iI R), .ref pn, .int (iI np)])), (pn, .inl (cI, 49, .inl (aI gn))), (s1, .inr (1, [.ref d1, .ref r1, .int (iI c1)])), (d1, .inl (cI, 16807, .inl (aI g1))), (r1, .inl (cI, 9163, .inl (aI h1)))] sz (fun (u : (Nat → Int) × (Nat → Int) × Int) => SpOK (BF (aftZ C R N) (bs * 343)) u.1 u.2.1 u.2.2) (fun u : (Nat → Int) × (Nat → Int) × Int => [(tt, .inr (2, [.ref fl, .int (iI lim), .ref s1, .ref s2, .int (iI bs), .int (iI P), .int (iI sm)])), (fl, .inr (0, [.int (iI C), .int (iI R), .ref pn, .int (iI np)])), (pn, .inl (cI, 49, .inl (aI gn))), (s1, .inr (1, [.ref d1, .ref r1, .int (iI u.2.2)])), (d1, .inl (cI, 16807, .inl (aI u.1))), (r1, .inl (cI, 9163, .inl (aI u.2.1)))]) := by
  obtain ⟨hC1, hC2, hR1, hR2, hp1, hp2, -, -⟩ := id hF
  obtain ⟨hb0, hb1, -, -, -, -⟩ := id hbs
  have hgd : ∀ z d : Int, 0 ≤ d → d ≤ 3 → GdZ C R N z → aftZ C R N z d ≠ -1 → GdZ C R N (aftZ C R N z d) := fun z d k1 k2 k3 k4 => (aftZ_back hF k3 k1 k2 k4).1
  refine MM_of (Qc := fun A => QMv D A (fun (u : (Nat → Int) × (Nat → Int) × Int) => SpOK (BF (aftZ C R N) (bs * 343)) u.1 u.2.1 u.2.2) (fun u : (Nat → Int) × (Nat → Int) × Int => [(tt, .inr (2, [.ref fl, .int (iI lim), .ref s1, .ref s2, .int (iI bs), .int (iI P), .int (iI sm)])), (fl, .inr (0, [.int (iI C), .int (iI R), .ref pn, .int (iI np)])), (pn, .inl (cI, 49, .inl (aI gn))), (s1, .inr (1, [.ref d1, .ref r1, .int (iI u.2.2)])), (d1, .inl (cI, 16807, .inl (aI u.1))), (r1, .inl (cI, 9163, .inl (aI u.2.1)))])) (by decide) rfl (Nat.le_of_ble_eq_true rfl) (fun p e s m below meth c ls A hx hb hr hts hown hlk hml hin hK hP hD hA hS hl => ?_)
  have hl : lv_has ls 4 [(0, .ref tt)] := hl
  refine lv_aload_n hx hb dX2_measureLengths_0 rfl (lv_at hl 0 rfl) ?_
  refine va_get (D := D) (ci := 2) (v := .ref s1) (C := RX2) (T := TX2) (N := 7) hx hb hts uX2 hown hK.1 hP 0 rfl rfl 2 (by decide) (hts _ q_159) (fun _ h9 => h9) rfl dX2_measureLengths_1 ?_
  refine lv_aload_n hx hb dX2_measureLengths_4 rfl (lv_at hl 0 rfl) ?_
  refine va_get (D := D) (ci := 2) (v := .int (iI bs)) (C := RX2) (T := TX2) (N := 7) hx hb hts uX2 hown hK.1 hP 0 rfl rfl 4 (by decide) (hts _ q_161) (fun _ h9 => h9) rfl dX2_measureLengths_5 ?_
  refine zv_iconst hx hb dX2_measureLengths_8 ?_
  refine zc_S (As := [.int (iI bs), .int (iI 0)]) (rest := [.ref s1]) (ws := [(tt, .inr (2, [.ref fl, .int (iI lim), .ref s1, .ref s2, .int (iI bs), .int (iI P), .int (iI sm)])), (fl, .inr (0, [.int (iI C), .int (iI R), .ref pn, .int (iI np)])), (pn, .inl (cI, 49, .inl (aI gn))), (s1, .inr (1, [.ref d1, .ref r1, .int (iI c1)])), (d1, .inl (cI, 16807, .inl (aI g1))), (r1, .inl (cI, 9163, .inl (aI h1)))]) (n := 2) hx hb (hml.trans hl.1.symm) hts hown hK hP (c_X2_placeOf l D cI cJ bs 0) (gd_S q_73 q_74 q_1 q_75) (by decide +kernel) rfl ⟨Nat.le_of_ble_eq_true rfl, Nat.le_of_ble_eq_true rfl⟩ ⟨Nat.le_of_ble_eq_true rfl, Nat.le_of_ble_eq_true rfl⟩ [] rfl rfl (Nat.le_of_ble_eq_true rfl) dX2_measureLengths_9 (fun r_1 hr_1 => ?_)
  subst r_1
  refine zm_Vv (As := [.int (iI (bs * 343 + 0))]) (rest := []) (ws := [(tt, .inr (2, [.ref fl, .int (iI lim), .ref s1, .ref s2, .int (iI bs), .int (iI P), .int (iI sm)])), (fl, .inr (0, [.int (iI C), .int (iI R), .ref pn, .int (iI np)])), (pn, .inl (cI, 49, .inl (aI gn))), (s1, .inr (1, [.ref d1, .ref r1, .int (iI c1)])), (d1, .inl (cI, 16807, .inl (aI g1))), (r1, .inl (cI, 9163, .inl (aI h1)))]) (wr := [(tt, .inr (2, [.ref fl, .int (iI lim), .ref s1, .ref s2, .int (iI bs), .int (iI P), .int (iI sm)])), (fl, .inr (0, [.int (iI C), .int (iI R), .ref pn, .int (iI np)])), (pn, .inl (cI, 49, .inl (aI gn)))]) (n := 1) hx hb (hml.trans hl.1.symm) hts hown hK hP hD hS hA (c_X1_begin l D cI cJ s1 d1 r1 c1 g1 h1 (bs * 343 + 0) (by omega) (by omega) _) (gd_V q_80 q_81 q_82 q_2 q_83) (by decide +kernel) rfl ⟨Nat.le_of_ble_eq_true rfl, Nat.le_of_ble_eq_true rfl⟩ ⟨Nat.le_of_ble_eq_true rfl, Nat.le_of_ble_eq_true rfl⟩ [3, 4, 5] [0, 1, 2] rfl rfl (by decide) (by decide) (by decide) 3 (ci := 1) rfl rfl rfl rfl (Nat.le_of_ble_eq_true rfl) dX2_measureLengths_12 (fun u H locs hq_2 hP hD hS => ?_)
  obtain ⟨g0, h0, c0⟩ := u
  have hP := hP.sub (ws' := [(tt, .inr (2, [.ref fl, .int (iI lim), .ref s1, .ref s2, .int (iI bs), .int (iI P), .int (iI sm)])), (fl, .inr (0, [.int (iI C), .int (iI R), .ref pn, .int (iI np)])), (pn, .inl (cI, 49, .inl (aI gn))), (s1, .inr (1, [.ref d1, .ref r1, .int (iI c0)])), (d1, .inl (cI, 16807, .inl (aI g0))), (r1, .inl (cI, 9163, .inl (aI h0)))]) [0, 1, 2, 3, 4, 5] rfl
  have hD := hD.sub (ws' := [(tt, .inr (2, [.ref fl, .int (iI lim), .ref s1, .ref s2, .int (iI bs), .int (iI P), .int (iI sm)])), (fl, .inr (0, [.int (iI C), .int (iI R), .ref pn, .int (iI np)])), (pn, .inl (cI, 49, .inl (aI gn))), (s1, .inr (1, [.ref d1, .ref r1, .int (iI c0)])), (d1, .inl (cI, 16807, .inl (aI g0))), (r1, .inl (cI, 9163, .inl (aI h0)))]) [0, 1, 2, 3, 4, 5] (by decide) rfl
  try dsimp only at hq_2
  have hbg : SpOK (bs0 (bs * 343)) g0 h0 c0 := by rw [show bs * 343 + 0 = bs * 343 by omega] at hq_2; exact hq_2
  refine zv_iconst hx hb dX2_measureLengths_15 ?_
  refine lv_istore_n (lv' := [(1, .int (iI 0)), (0, .ref tt)]) hx hb dX2_measureLengths_16 rfl hl (by decide) rfl (fun ls hl => ?_)
  have loop17 : ∀ (nn : Nat) (i : Int) (S : BS) (g : Nat → Int) (h : Nat → Int) (ct : Int), (0 ≤ i) → (i ≤ 16807) → (bsG (aftZ C R N) (16807 - i.toNat) i.toNat S = BF (aftZ C R N) (bs * 343)) → (BI (aftZ C R N) (bs * 343) (GdZ C R N) S i.toNat 0) → (SpOK S g h ct) → (∀ z, S.2.1 z < (S.1.length : Int)) → (16807 - i < (nn : Int)) → ∀ (H : Heap) (locs : List Loc), va_P D vwCl [(tt, .inr (2, [.ref fl, .int (iI lim), .ref s1, .ref s2, .int (iI bs), .int (iI P), .int (iI sm)])), (fl, .inr (0, [.int (iI C), .int (iI R), .ref pn, .int (iI np)])), (pn, .inl (cI, 49, .inl (aI gn))), (s1, .inr (1, [.ref d1, .ref r1, .int (iI ct)])), (d1, .inl (cI, 16807, .inl (aI g))), (r1, .inl (cI, 9163, .inl (aI h)))] H → va_D A [(tt, .inr (2, [.ref fl, .int (iI lim), .ref s1, .ref s2, .int (iI bs), .int (iI P), .int (iI sm)])), (fl, .inr (0, [.int (iI C), .int (iI R), .ref pn, .int (iI np)])), (pn, .inl (cI, 49, .inl (aI gn))), (s1, .inr (1, [.ref d1, .ref r1, .int (iI ct)])), (d1, .inl (cI, 16807, .inl (aI g))), (r1, .inl (cI, 9163, .inl (aI h)))] → va_S A s.heap H locs → ∀ ls : Array Slot, lv_has ls 4 [(0, .ref tt), (1, .int (iI i))] → W p l e (rmM 5 0 0) s m [.ref tt].toArray below meth c H locs 0 0 (MQ below (QMv D A (fun (u : (Nat → Int) × (Nat → Int) × Int) => SpOK (BF (aftZ C R N) (bs * 343)) u.1 u.2.1 u.2.2) (fun u : (Nat → Int) × (Nat → Int) × Int => [(tt, .inr (2, [.ref fl, .int (iI lim), .ref s1, .ref s2, .int (iI bs), .int (iI P), .int (iI sm)])), (fl, .inr (0, [.int (iI C), .int (iI R), .ref pn, .int (iI np)])), (pn, .inl (cI, 49, .inl (aI gn))), (s1, .inr (1, [.ref d1, .ref r1, .int (iI u.2.2)])), (d1, .inl (cI, 16807, .inl (aI u.1))), (r1, .inl (cI, 9163, .inl (aI u.2.1)))])) [.ref tt].toArray s 0 0 A) (F0 m 17 ls []) := by
    intro nn
    induction nn with
    | zero => intro i S g h ct hi0 hi1 hG hBI hsp hbd hms; exfalso; omega
    | succ nn ih17 =>
      intro i S g h ct hi0 hi1 hG hBI hsp hbd hms H locs hP hD hS ls hl
      obtain ⟨hLn, hct, hln, hat⟩ := id hsp
      refine lv_iload_n hx hb dX2_measureLengths_17 rfl (lv_at hl 1 rfl) ?_
      refine zv_sipush hx hb dX2_measureLengths_18 (by decide) ?_
      refine zv_icmp_ge hx hb dX2_measureLengths_21 (tgt := 80) (by decide) ⟨by omega, by omega⟩ ⟨by omega, by omega⟩ (fun c_4 => ?_) (fun c_4 => ?_)
      · exact MM_vret (g, h, ct) hx hb hr hlk hP hD hS (Nat.le_of_ble_eq_true rfl) (Nat.le_of_ble_eq_true rfl) dX2_measureLengths_80 (by rw [← bsG_e hG (by omega)]; exact hsp)
      · refine lv_iload_n hx hb dX2_measureLengths_24 rfl (lv_at hl 1 rfl) ?_
        refine lv_aload_n hx hb dX2_measureLengths_25 rfl (lv_at hl 0 rfl) ?_
        refine va_get (D := D) (ci := 2) (v := .ref s1) (C := RX2) (T := TX2) (N := 7) hx hb hts uX2 hown hK.1 hP 0 rfl rfl 2 (by decide) (hts _ q_159) (fun _ h9 => h9) rfl dX2_measureLengths_26 ?_
        refine zc_V (As := []) (rest := [.int (iI i)]) (ws := [(tt, .inr (2, [.ref fl, .int (iI lim), .ref s1, .ref s2, .int (iI bs), .int (iI P), .int (iI sm)])), (fl, .inr (0, [.int (iI C), .int (iI R), .ref pn, .int (iI np)])), (pn, .inl (cI, 49, .inl (aI gn))), (s1, .inr (1, [.ref d1, .ref r1, .int (iI ct)])), (d1, .inl (cI, 16807, .inl (aI g))), (r1, .inl (cI, 9163, .inl (aI h)))]) (n := 0) hx hb (hml.trans hl.1.symm) hts hown hK hP (c_X1_count l D cI cJ s1 d1 r1 ct) (gd_V q_89 q_90 q_91 q_2 q_92) (by decide +kernel) rfl ⟨Nat.le_of_ble_eq_true rfl, Nat.le_of_ble_eq_true rfl⟩ ⟨Nat.le_of_ble_eq_true rfl, Nat.le_of_ble_eq_true rfl⟩ [3] rfl 3 (ci := 1) rfl rfl rfl rfl (Nat.le_of_ble_eq_true rfl) dX2_measureLengths_29 (fun r_5 hr_5 => ?_)
        subst r_5
        refine zv_icmp_ge hx hb dX2_measureLengths_32 (tgt := 80) (by decide) ⟨by omega, by omega⟩ ⟨by omega, by omega⟩ (fun c_6 => ?_) (fun c_6 => ?_)
        · exact MM_vret (g, h, ct) hx hb hr hlk hP hD hS (Nat.le_of_ble_eq_true rfl) (Nat.le_of_ble_eq_true rfl) dX2_measureLengths_80 (by rw [← bsG_e hG (by omega)]; exact hsp)
        · have hil : i.toNat < S.1.length := by omega
          have hpt := hat i.toNat hil
          have hgf := hBI.2.2.2.1 _ (List.mem_of_getElem? (bsAt_some hil))
          obtain ⟨hf0, hf1, hf2⟩ := hgf.pl
          refine lv_aload_n hx hb dX2_measureLengths_35 rfl (lv_at hl 0 rfl) ?_
          refine va_get (D := D) (ci := 2) (v := .ref s1) (C := RX2) (T := TX2) (N := 7) hx hb hts uX2 hown hK.1 hP 0 rfl rfl 2 (by decide) (hts _ q_159) (fun _ h9 => h9) rfl dX2_measureLengths_36 ?_
          refine lv_iload_n hx hb dX2_measureLengths_39 rfl (lv_at hl 1 rfl) ?_
          refine zc_V (As := [.int (iI i)]) (rest := []) (ws := [(tt, .inr (2, [.ref fl, .int (iI lim), .ref s1, .ref s2, .int (iI bs), .int (iI P), .int (iI sm)])), (fl, .inr (0, [.int (iI C), .int (iI R), .ref pn, .int (iI np)])), (pn, .inl (cI, 49, .inl (aI gn))), (s1, .inr (1, [.ref d1, .ref r1, .int (iI ct)])), (d1, .inl (cI, 16807, .inl (aI g))), (r1, .inl (cI, 9163, .inl (aI h)))]) (n := 1) hx hb (hml.trans hl.1.symm) hts hown hK hP (c_X1_placeAt l D cI cJ s1 d1 r1 ct h i (by omega) (by omega) (by omega) (by omega)) (gd_V q_93 q_94 q_95 q_2 q_96) (by decide +kernel) rfl ⟨Nat.le_of_ble_eq_true rfl, Nat.le_of_ble_eq_true rfl⟩ ⟨Nat.le_of_ble_eq_true rfl, Nat.le_of_ble_eq_true rfl⟩ [3, 5] rfl 3 (ci := 1) rfl rfl rfl rfl (Nat.le_of_ble_eq_true rfl) dX2_measureLengths_40 (fun r_7 hr_7 => ?_)
          subst r_7
          refine zv_top (y := (bsAt S i.toNat)) (hpt) ?_
          refine lv_istore_n (lv' := [(2, .int (iI (bsAt S i.toNat))), (0, .ref tt), (1, .int (iI i))]) hx hb dX2_measureLengths_43 rfl hl (by decide) rfl (fun ls hl => ?_)
          refine zv_iconst hx hb dX2_measureLengths_44 ?_
          refine lv_istore_n (lv' := [(3, .int (iI 0)), (2, .int (iI (bsAt S i.toNat))), (0, .ref tt), (1, .int (iI i))]) hx hb dX2_measureLengths_45 rfl hl (by decide) rfl (fun ls hl => ?_)
          have loop46 : ∀ (nn : Nat) (dd : Int) (f : Nat → Int) (fh : Nat → Int) (fc : Int), (0 ≤ dd) → (dd ≤ 4) → (SpOK (bsK (aftZ C R N) S (bsAt S i.toNat) dd.toNat) f fh fc) → (∀ z, (bsK (aftZ C R N) S (bsAt S i.toNat) dd.toNat).2.1 z < ((bsK (aftZ C R N) S (bsAt S i.toNat) dd.toNat).1.length : Int)) → (4 - dd < (nn : Int)) → ∀ (H : Heap) (locs : List Loc), va_P D vwCl [(tt, .inr (2, [.ref fl, .int (iI lim), .ref s1, .ref s2, .int (iI bs), .int (iI P), .int (iI sm)])), (fl, .inr (0, [.int (iI C), .int (iI R), .ref pn, .int (iI np)])), (pn, .inl (cI, 49, .inl (aI gn))), (s1, .inr (1, [.ref d1, .ref r1, .int (iI fc)])), (d1, .inl (cI, 16807, .inl (aI f))), (r1, .inl (cI, 9163, .inl (aI fh)))] H → va_D A [(tt, .inr (2, [.ref fl, .int (iI lim), .ref s1, .ref s2, .int (iI bs), .int (iI P), .int (iI sm)])), (fl, .inr (0, [.int (iI C), .int (iI R), .ref pn, .int (iI np)])), (pn, .inl (cI, 49, .inl (aI gn))), (s1, .inr (1, [.ref d1, .ref r1, .int (iI fc)])), (d1, .inl (cI, 16807, .inl (aI f))), (r1, .inl (cI, 9163, .inl (aI fh)))] → va_S A s.heap H locs → ∀ ls : Array Slot, lv_has ls 4 [(0, .ref tt), (1, .int (iI i)), (2, .int (iI (bsAt S i.toNat))), (3, .int (iI dd))] → W p l e (rmM 5 0 0) s m [.ref tt].toArray below meth c H locs 0 0 (MQ below (QMv D A (fun (u : (Nat → Int) × (Nat → Int) × Int) => SpOK (BF (aftZ C R N) (bs * 343)) u.1 u.2.1 u.2.2) (fun u : (Nat → Int) × (Nat → Int) × Int => [(tt, .inr (2, [.ref fl, .int (iI lim), .ref s1, .ref s2, .int (iI bs), .int (iI P), .int (iI sm)])), (fl, .inr (0, [.int (iI C), .int (iI R), .ref pn, .int (iI np)])), (pn, .inl (cI, 49, .inl (aI gn))), (s1, .inr (1, [.ref d1, .ref r1, .int (iI u.2.2)])), (d1, .inl (cI, 16807, .inl (aI u.1))), (r1, .inl (cI, 9163, .inl (aI u.2.1)))])) [.ref tt].toArray s 0 0 A) (F0 m 46 ls []) := by
            intro nn
            induction nn with
            | zero => intro dd f fh fc hd0 hd1 hsq hbe hms; exfalso; omega
            | succ nn ih46 =>
              intro dd f fh fc hd0 hd1 hsq hbe hms H locs hP hD hS ls hl
              have hBK := BI_K hBI (bsAt_some hil) (fun d k1 k2 => hgd _ d k1 k2) dd.toNat (by omega)
              refine lv_iload_n hx hb dX2_measureLengths_46 rfl (lv_at hl 3 rfl) ?_
              refine zv_iconst hx hb dX2_measureLengths_47 ?_
              refine zv_icmp_ge hx hb dX2_measureLengths_48 (tgt := 74) (by decide) ⟨by omega, by omega⟩ ⟨by omega, by omega⟩ (fun c_8 => ?_) (fun c_8 => ?_)
              · have hd4 : dd.toNat = 4 := by omega
                refine zv_iinc (k := 1) (lv' := [(1, .int (iI (i + 1))), (0, .ref tt), (2, .int (iI (bsAt S i.toNat))), (3, .int (iI dd))]) hx hb dX2_measureLengths_74 hl rfl (by decide) rfl (fun ls hl => ?_)
                refine lv_goto (tgt := 17) hx hb dX2_measureLengths_77 (by decide) ?_
                exact ih17 (i + 1) (bsK (aftZ C R N) S (bsAt S i.toNat) 4) f fh fc (by omega) (by omega) (by rw [show (i + 1).toNat = i.toNat + 1 by omega, show 16807 - (i.toNat + 1) = 16806 - i.toNat by omega]; exact bsG_s (by rw [show 16806 - i.toNat + 1 = 16807 - i.toNat by omega]; exact hG) hil) (by rw [show (i + 1).toNat = i.toNat + 1 by omega]; exact BI_i (by rw [← hd4]; exact hBK) (by omega)) (by rw [← hd4]; exact hsq) (by rw [← hd4]; exact hbe) (by omega) _ _ hP hD hS ls (lv_sub hl [1, 0] rfl)
              · refine lv_aload_n hx hb dX2_measureLengths_51 rfl (lv_at hl 0 rfl) ?_
                refine va_get (D := D) (ci := 2) (v := .ref s1) (C := RX2) (T := TX2) (N := 7) hx hb hts uX2 hown hK.1 hP 0 rfl rfl 2 (by decide) (hts _ q_159) (fun _ h9 => h9) rfl dX2_measureLengths_52 ?_
                refine lv_aload_n hx hb dX2_measureLengths_55 rfl (lv_at hl 0 rfl) ?_
                refine va_get (D := D) (ci := 2) (v := .ref fl) (C := RX2) (T := TX2) (N := 7) hx hb hts uX2 hown hK.1 hP 0 rfl rfl 0 (by decide) (hts _ q_157) (fun _ h9 => h9) rfl dX2_measureLengths_56 ?_
                refine lv_iload_n hx hb dX2_measureLengths_59 rfl (lv_at hl 2 rfl) ?_
                refine lv_iload_n hx hb dX2_measureLengths_60 rfl (lv_at hl 3 rfl) ?_
                refine zc_V (As := [.int (iI (bsAt S i.toNat)), .int (iI dd)]) (rest := [.ref s1]) (ws := [(tt, .inr (2, [.ref fl, .int (iI lim), .ref s1, .ref s2, .int (iI bs), .int (iI P), .int (iI sm)])), (fl, .inr (0, [.int (iI C), .int (iI R), .ref pn, .int (iI np)])), (pn, .inl (cI, 49, .inl (aI gn))), (s1, .inr (1, [.ref d1, .ref r1, .int (iI fc)])), (d1, .inl (cI, 16807, .inl (aI f))), (r1, .inl (cI, 9163, .inl (aI fh)))]) (n := 2) hx hb (hml.trans hl.1.symm) hts hown hK hP (c_X0_after l D cI cJ fl pn C R np gn N (bsAt S i.toNat) dd hF (by omega) (by omega) (by omega) (by omega) (by omega)) (gd_V q_97 q_98 q_99 q_3 q_100) (by decide +kernel) rfl ⟨Nat.le_of_ble_eq_true rfl, Nat.le_of_ble_eq_true rfl⟩ ⟨Nat.le_of_ble_eq_true rfl, Nat.le_of_ble_eq_true rfl⟩ [1, 2] rfl 1 (ci := 0) rfl rfl rfl rfl (Nat.le_of_ble_eq_true rfl) dX2_measureLengths_61 (fun r_9 hr_9 => ?_)
                subst r_9
                refine lv_iload_n hx hb dX2_measureLengths_64 rfl (lv_at hl 2 rfl) ?_
                have hab := aftZ_b hF (d := dd) hf0 hf1 hf2
                have hBd := BI_d hBK (bsK_at _ _ _ _ _ _ (bsAt_some hil)) (by omega) (by omega) (fun k1 k2 => hgd _ _ (by omega) (by omega) k1 k2)
                rw [Int.toNat_of_nonneg hd0] at hBd
                have hln9 := gd_len hBd.1 hBd.2.2.2.1
                have hmf := hBK.2.2.1 (bsAt S i.toNat)
                have hmg : 0 ≤ (bsK (aftZ C R N) S (bsAt S i.toNat) dd.toNat).2.1 (bsAt S i.toNat) := by rcases hmf with k | k <;> first | exact k.1 | exact absurd (List.mem_of_getElem? (bsK_at _ _ _ _ _ _ (bsAt_some hil))) k.2
                have hbf := hbe (bsAt S i.toNat)
                have hlq := hsq.2.2.1
                refine zm_Vv (As := [.int (iI (aftZ C R N (bsAt S i.toNat) dd)), .int (iI (bsAt S i.toNat))]) (rest := []) (ws := [(tt, .inr (2, [.ref fl, .int (iI lim), .ref s1, .ref s2, .int (iI bs), .int (iI P), .int (iI sm)])), (fl, .inr (0, [.int (iI C), .int (iI R), .ref pn, .int (iI np)])), (pn, .inl (cI, 49, .inl (aI gn))), (s1, .inr (1, [.ref d1, .ref r1, .int (iI fc)])), (d1, .inl (cI, 16807, .inl (aI f))), (r1, .inl (cI, 9163, .inl (aI fh)))]) (wr := [(tt, .inr (2, [.ref fl, .int (iI lim), .ref s1, .ref s2, .int (iI bs), .int (iI P), .int (iI sm)])), (fl, .inr (0, [.int (iI C), .int (iI R), .ref pn, .int (iI np)])), (pn, .inl (cI, 49, .inl (aI gn)))]) (n := 2) hx hb (hml.trans hl.1.symm) hts hown hK hP hD hS hA (c_X1_reach l D cI cJ s1 d1 r1 fc f fh (aftZ C R N (bsAt S i.toNat) dd) (bsAt S i.toNat) (bsK (aftZ C R N) S (bsAt S i.toNat) dd.toNat) hsq (by omega) (by omega) (by omega) (by omega) (by omega) (by omega) hln9 _) (gd_V q_149 q_150 q_151 q_2 q_152) (by decide +kernel) rfl ⟨Nat.le_of_ble_eq_true rfl, Nat.le_of_ble_eq_true rfl⟩ ⟨Nat.le_of_ble_eq_true rfl, Nat.le_of_ble_eq_true rfl⟩ [3, 4, 5] [0, 1, 2] rfl rfl (by decide) (by decide) (by decide) 3 (ci := 1) rfl rfl rfl rfl (Nat.le_of_ble_eq_true rfl) dX2_measureLengths_65 (fun u H locs hq_10 hP hD hS => ?_)
                obtain ⟨g9, h9, c9⟩ := u
                have hP := hP.sub (ws' := [(tt, .inr (2, [.ref fl, .int (iI lim), .ref s1, .ref s2, .int (iI bs), .int (iI P), .int (iI sm)])), (fl, .inr (0, [.int (iI C), .int (iI R), .ref pn, .int (iI np)])), (pn, .inl (cI, 49, .inl (aI gn))), (s1, .inr (1, [.ref d1, .ref r1, .int (iI c9)])), (d1, .inl (cI, 16807, .inl (aI g9))), (r1, .inl (cI, 9163, .inl (aI h9)))]) [0, 1, 2, 3, 4, 5] rfl
                have hD := hD.sub (ws' := [(tt, .inr (2, [.ref fl, .int (iI lim), .ref s1, .ref s2, .int (iI bs), .int (iI P), .int (iI sm)])), (fl, .inr (0, [.int (iI C), .int (iI R), .ref pn, .int (iI np)])), (pn, .inl (cI, 49, .inl (aI gn))), (s1, .inr (1, [.ref d1, .ref r1, .int (iI c9)])), (d1, .inl (cI, 16807, .inl (aI g9))), (r1, .inl (cI, 9163, .inl (aI h9)))]) [0, 1, 2, 3, 4, 5] (by decide) rfl
                try dsimp only at hq_10
                have hrc := hq_10
                refine zv_iinc (k := 3) (lv' := [(3, .int (iI (dd + 1))), (0, .ref tt), (1, .int (iI i)), (2, .int (iI (bsAt S i.toNat)))]) hx hb dX2_measureLengths_68 hl rfl (by decide) rfl (fun ls hl => ?_)
                refine lv_goto (tgt := 46) hx hb dX2_measureLengths_71 (by decide) ?_
                exact ih46 (dd + 1) g9 h9 c9 (by omega) (by omega) (by rw [show (dd + 1).toNat = dd.toNat + 1 by omega]; show SpOK (bsR _ (aftZ C R N (bsAt S i.toNat) (dd.toNat : Int)) _) _ _ _; rw [Int.toNat_of_nonneg hd0]; exact hrc) (by rw [show (dd + 1).toNat = dd.toNat + 1 by omega]; exact bsR_b hbe) (by omega) _ _ hP hD hS ls (lv_sub hl [1, 2, 3, 0] rfl)
          exact loop46 5 0 g h ct (by omega) (by omega) hsp hbd (by omega) _ _ hP hD hS ls (lv_sub hl [2, 3, 1, 0] rfl)
  exact loop17 16808 0 (bs0 (bs * 343)) g0 h0 c0 (by omega) (by omega) rfl (BI_0 hbs) hbg (fun z => by show (if z = bs * 343 then (0 : Int) else -1) < 1; split <;> omega) (by omega) _ _ hP hD hS ls (lv_sub hl [1, 0] rfl)
set_option maxRecDepth 100000 in
set_option maxHeartbeats 4000000 in
theorem c_X2_nearestPlaceOf (l : Launch) (D : va_G) (cI cJ : ClassId) (tt fl s1 s2 pn d1 r1 d2 r2 : Nat) (lim bs P sm C R np c1 c2 : Int) (gn g1 g2 h2 : Nat → Int) (N L : Int → Int) (q : Int) (hF : FlOK C R np N gn) (hL : LenOK L g1) (hlm : 1 ≤ lim ∧ lim ≤ 60) (hPg : GdZ C R N P) (hq0 : 0 ≤ q) (hq1 : q < 49) (sz : Nat) : MMi l yX2_nearestPlaceOf (.code yX2_nearestPlaceOf cX2_nearestPlaceOf 5 (some .int)) 6 0 0 [.ref tt, .int (iI q)] D cI cJ [(tt, .inr (2, [.ref fl, .int (iI lim), .ref s1, .ref s2, .int (iI bs), .int (iI P), .int (iI sm)])), (fl, .inr (0, [.int (iI C), .int (iI R), .ref pn, .int (iI np)])), (pn, .inl (cI, 49, .inl (aI gn))), (s1, .inr (1, [.ref d1, .ref r1, .int (iI c1)])), (d1, .inl (cI, 16807, .inl (aI g1))), (s2, .inr (1, [.ref d2, .ref r2, .int (iI c2)])), (d2, .inl (cI, 16807, .inl (aI g2))), (r2, .inl (cI, 9163, .inl (aI h2)))] sz (fun (r : Int) (u : (Nat → Int) × (Nat → Int) × Int) => r = (bsF (astZ C R N L lim) q 16807 0 (bs0 P)).1 ∧ SpOK (bsF (astZ C R N L lim) q 16807 0 (bs0 P)).2 u.1 u.2.1 u.2.2) (fun u : (Nat → Int) × (Nat → Int) × Int => [(tt, .inr (2, [.ref fl, .int (iI lim), .ref s1, .ref s2, .int (iI bs), .int (iI P), .int (iI sm)])), (fl, .inr (0, [.int (iI C), .int (iI R), .ref pn, .int (iI np)])), (pn, .inl (cI, 49, .inl (aI gn))), (s1, .inr (1, [.ref d1, .ref r1, .int (iI c1)])), (d1, .inl (cI, 16807, .inl (aI g1))), (s2, .inr (1, [.ref d2, .ref r2, .int (iI u.2.2)])), (d2, .inl (cI, 16807, .inl (aI u.1))), (r2, .inl (cI, 9163, .inl (aI u.2.1)))]) := by
  obtain ⟨hC1, hC2, hR1, hR2, hp1, hp2, -, -⟩ := id hF
  obtain ⟨hP0, hP1, -, -, -, -⟩ := id hPg
  have hgd : ∀ z d : Int, 0 ≤ d → d ≤ 3 → GdZ C R N z → astZ C R N L lim z d ≠ -1 → GdZ C R N (astZ C R N L lim z d) := fun z d k1 k2 k3 k4 => astZ_gd hF k3 k1 k2 k4
  refine MM_of (Qc := fun A => QMi D A (fun (r : Int) (u : (Nat → Int) × (Nat → Int) × Int) => r = (bsF (astZ C R N L lim) q 16807 0 (bs0 P)).1 ∧ SpOK (bsF (astZ C R N L lim) q 16807 0 (bs0 P)).2 u.1 u.2.1 u.2.2) (fun u : (Nat → Int) × (Nat → Int) × Int => [(tt, .inr (2, [.ref fl, .int (iI lim), .ref s1, .ref s2, .int (iI bs), .int (iI P), .int (iI sm)])), (fl, .inr (0, [.int (iI C), .int (iI R), .ref pn, .int (iI np)])), (pn, .inl (cI, 49, .inl (aI gn))), (s1, .inr (1, [.ref d1, .ref r1, .int (iI c1)])), (d1, .inl (cI, 16807, .inl (aI g1))), (s2, .inr (1, [.ref d2, .ref r2, .int (iI u.2.2)])), (d2, .inl (cI, 16807, .inl (aI u.1))), (r2, .inl (cI, 9163, .inl (aI u.2.1)))])) (by decide) rfl (Nat.le_of_ble_eq_true rfl) (fun p e s m below meth c ls A hx hb hr hts hown hlk hml hin hK hP hD hA hS hl => ?_)
  have hl : lv_has ls 5 [(0, .ref tt), (1, .int (iI q))] := hl
  refine lv_aload_n hx hb dX2_nearestPlaceOf_0 rfl (lv_at hl 0 rfl) ?_
  refine va_get (D := D) (ci := 2) (v := .ref s2) (C := RX2) (T := TX2) (N := 7) hx hb hts uX2 hown hK.1 hP 0 rfl rfl 3 (by decide) (hts _ q_160) (fun _ h9 => h9) rfl dX2_nearestPlaceOf_1 ?_
  refine lv_aload_n hx hb dX2_nearestPlaceOf_4 rfl (lv_at hl 0 rfl) ?_
  refine va_get (D := D) (ci := 2) (v := .int (iI P)) (C := RX2) (T := TX2) (N := 7) hx hb hts uX2 hown hK.1 hP 0 rfl rfl 5 (by decide) (hts _ q_162) (fun _ h9 => h9) rfl dX2_nearestPlaceOf_5 ?_
  refine zm_Vv (As := [.int (iI P)]) (rest := []) (ws := [(tt, .inr (2, [.ref fl, .int (iI lim), .ref s1, .ref s2, .int (iI bs), .int (iI P), .int (iI sm)])), (fl, .inr (0, [.int (iI C), .int (iI R), .ref pn, .int (iI np)])), (pn, .inl (cI, 49, .inl (aI gn))), (s1, .inr (1, [.ref d1, .ref r1, .int (iI c1)])), (d1, .inl (cI, 16807, .inl (aI g1))), (s2, .inr (1, [.ref d2, .ref r2, .int (iI c2)])), (d2, .inl (cI, 16807, .inl (aI g2))), (r2, .inl (cI, 9163, .inl (aI h2)))]) (wr := [(tt, .inr (2, [.ref fl, .int (iI lim), .ref s1, .ref s2, .int (iI bs), .int (iI P), .int (iI sm)])), (fl, .inr (0, [.int (iI C), .int (iI R), .ref pn, .int (iI np)])), (pn, .inl (cI, 49, .inl (aI gn))), (s1, .inr (1, [.ref d1, .ref r1, .int (iI c1)])), (d1, .inl (cI, 16807, .inl (aI g1)))]) (n := 1) hx hb (hml.trans hl.1.symm) hts hown hK hP hD hS hA (c_X1_begin l D cI cJ s2 d2 r2 c2 g2 h2 P (by omega) (by omega) _) (gd_V q_80 q_81 q_82 q_2 q_83) (by decide +kernel) rfl ⟨Nat.le_of_ble_eq_true rfl, Nat.le_of_ble_eq_true rfl⟩ ⟨Nat.le_of_ble_eq_true rfl, Nat.le_of_ble_eq_true rfl⟩ [5, 6, 7] [0, 1, 2, 3, 4] rfl rfl (by decide) (by decide) (by decide) 5 (ci := 1) rfl rfl rfl rfl (Nat.le_of_ble_eq_true rfl) dX2_nearestPlaceOf_8 (fun u H locs hq_1 hP hD hS => ?_)
  obtain ⟨g0, h0, c0⟩ := u
  have hP := hP.sub (ws' := [(tt, .inr (2, [.ref fl, .int (iI lim), .ref s1, .ref s2, .int (iI bs), .int (iI P), .int (iI sm)])), (fl, .inr (0, [.int (iI C), .int (iI R), .ref pn, .int (iI np)])), (pn, .inl (cI, 49, .inl (aI gn))), (s1, .inr (1, [.ref d1, .ref r1, .int (iI c1)])), (d1, .inl (cI, 16807, .inl (aI g1))), (s2, .inr (1, [.ref d2, .ref r2, .int (iI c0)])), (d2, .inl (cI, 16807, .inl (aI g0))), (r2, .inl (cI, 9163, .inl (aI h0)))]) [0, 1, 2, 3, 4, 5, 6, 7] rfl
  have hD := hD.sub (ws' := [(tt, .inr (2, [.ref fl, .int (iI lim), .ref s1, .ref s2, .int (iI bs), .int (iI P), .int (iI sm)])), (fl, .inr (0, [.int (iI C), .int (iI R), .ref pn, .int (iI np)])), (pn, .inl (cI, 49, .inl (aI gn))), (s1, .inr (1, [.ref d1, .ref r1, .int (iI c1)])), (d1, .inl (cI, 16807, .inl (aI g1))), (s2, .inr (1, [.ref d2, .ref r2, .int (iI c0)])), (d2, .inl (cI, 16807, .inl (aI g0))), (r2, .inl (cI, 9163, .inl (aI h0)))]) [0, 1, 2, 3, 4, 5, 6, 7] (by decide) rfl
  try dsimp only at hq_1
  have hbg := hq_1
  refine zv_iconst hx hb dX2_nearestPlaceOf_11 ?_
  refine lv_istore_n (lv' := [(2, .int (iI 0)), (0, .ref tt), (1, .int (iI q))]) hx hb dX2_nearestPlaceOf_12 rfl hl (by decide) rfl (fun ls hl => ?_)
  have loop13 : ∀ (nn : Nat) (i : Int) (S : BS) (g : Nat → Int) (h : Nat → Int) (ct : Int), (0 ≤ i) → (i ≤ 16807) → (bsF (astZ C R N L lim) q (16807 - i.toNat) i.toNat S = bsF (astZ C R N L lim) q 16807 0 (bs0 P)) → (BI (astZ C R N L lim) P (GdZ C R N) S i.toNat 0) → (SpOK S g h ct) → (∀ z, S.2.1 z < (S.1.length : Int)) → (16807 - i < (nn : Int)) → ∀ (H : Heap) (locs : List Loc), va_P D vwCl [(tt, .inr (2, [.ref fl, .int (iI lim), .ref s1, .ref s2, .int (iI bs), .int (iI P), .int (iI sm)])), (fl, .inr (0, [.int (iI C), .int (iI R), .ref pn, .int (iI np)])), (pn, .inl (cI, 49, .inl (aI gn))), (s1, .inr (1, [.ref d1, .ref r1, .int (iI c1)])), (d1, .inl (cI, 16807, .inl (aI g1))), (s2, .inr (1, [.ref d2, .ref r2, .int (iI ct)])), (d2, .inl (cI, 16807, .inl (aI g))), (r2, .inl (cI, 9163, .inl (aI h)))] H → va_D A [(tt, .inr (2, [.ref fl, .int (iI lim), .ref s1, .ref s2, .int (iI bs), .int (iI P), .int (iI sm)])), (fl, .inr (0, [.int (iI C), .int (iI R), .ref pn, .int (iI np)])), (pn, .inl (cI, 49, .inl (aI gn))), (s1, .inr (1, [.ref d1, .ref r1, .int (iI c1)])), (d1, .inl (cI, 16807, .inl (aI g1))), (s2, .inr (1, [.ref d2, .ref r2, .int (iI ct)])), (d2, .inl (cI, 16807, .inl (aI g))), (r2, .inl (cI, 9163, .inl (aI h)))] → va_S A s.heap H locs → ∀ ls : Array Slot, lv_has ls 5 [(0, .ref tt), (1, .int (iI q)), (2, .int (iI i))] → W p l e (rmM 6 0 0) s m [.ref tt, .int (iI q)].toArray below meth c H locs 0 0 (MQ below (QMi D A (fun (r : Int) (u : (Nat → Int) × (Nat → Int) × Int) => r = (bsF (astZ C R N L lim) q 16807 0 (bs0 P)).1 ∧ SpOK (bsF (astZ C R N L lim) q 16807 0 (bs0 P)).2 u.1 u.2.1 u.2.2) (fun u : (Nat → Int) × (Nat → Int) × Int => [(tt, .inr (2, [.ref fl, .int (iI lim), .ref s1, .ref s2, .int (iI bs), .int (iI P), .int (iI sm)])), (fl, .inr (0, [.int (iI C), .int (iI R), .ref pn, .int (iI np)])), (pn, .inl (cI, 49, .inl (aI gn))), (s1, .inr (1, [.ref d1, .ref r1, .int (iI c1)])), (d1, .inl (cI, 16807, .inl (aI g1))), (s2, .inr (1, [.ref d2, .ref r2, .int (iI u.2.2)])), (d2, .inl (cI, 16807, .inl (aI u.1))), (r2, .inl (cI, 9163, .inl (aI u.2.1)))])) [.ref tt, .int (iI q)].toArray s 0 0 A) (F0 m 13 ls []) := by
    intro nn
    induction nn with
    | zero => intro i S g h ct hi0 hi1 hG hBI hsp hbd hms; exfalso; omega
    | succ nn ih13 =>
      intro i S g h ct hi0 hi1 hG hBI hsp hbd hms H locs hP hD hS ls hl
      obtain ⟨hLn, hct, hln, hat⟩ := id hsp
      refine lv_iload_n hx hb dX2_nearestPlaceOf_13 rfl (lv_at hl 2 rfl) ?_
      refine zv_sipush hx hb dX2_nearestPlaceOf_14 (by decide) ?_
      refine zv_icmp_ge hx hb dX2_nearestPlaceOf_17 (tgt := 86) (by decide) ⟨by omega, by omega⟩ ⟨by omega, by omega⟩ (fun c_3 => ?_) (fun c_3 => ?_)
      · refine zv_iconst hx hb dX2_nearestPlaceOf_86 ?_
        exact MM_iret (g, h, ct) hx hb hr hlk hP hD hS (Nat.le_of_ble_eq_true rfl) (Nat.le_of_ble_eq_true rfl) dX2_nearestPlaceOf_87 (by rw [bsF_e hG (by omega)]; exact ⟨rfl, hsp⟩)
      · refine lv_iload_n hx hb dX2_nearestPlaceOf_20 rfl (lv_at hl 2 rfl) ?_
        refine lv_aload_n hx hb dX2_nearestPlaceOf_21 rfl (lv_at hl 0 rfl) ?_
        refine va_get (D := D) (ci := 2) (v := .ref s2) (C := RX2) (T := TX2) (N := 7) hx hb hts uX2 hown hK.1 hP 0 rfl rfl 3 (by decide) (hts _ q_160) (fun _ h9 => h9) rfl dX2_nearestPlaceOf_22 ?_
        refine zc_V (As := []) (rest := [.int (iI i)]) (ws := [(tt, .inr (2, [.ref fl, .int (iI lim), .ref s1, .ref s2, .int (iI bs), .int (iI P), .int (iI sm)])), (fl, .inr (0, [.int (iI C), .int (iI R), .ref pn, .int (iI np)])), (pn, .inl (cI, 49, .inl (aI gn))), (s1, .inr (1, [.ref d1, .ref r1, .int (iI c1)])), (d1, .inl (cI, 16807, .inl (aI g1))), (s2, .inr (1, [.ref d2, .ref r2, .int (iI ct)])), (d2, .inl (cI, 16807, .inl (aI g))), (r2, .inl (cI, 9163, .inl (aI h)))]) (n := 0) hx hb (hml.trans hl.1.symm) hts hown hK hP (c_X1_count l D cI cJ s2 d2 r2 ct) (gd_V q_89 q_90 q_91 q_2 q_92) (by decide +kernel) rfl ⟨Nat.le_of_ble_eq_true rfl, Nat.le_of_ble_eq_true rfl⟩ ⟨Nat.le_of_ble_eq_true rfl, Nat.le_of_ble_eq_true rfl⟩ [5] rfl 5 (ci := 1) rfl rfl rfl rfl (Nat.le_of_ble_eq_true rfl) dX2_nearestPlaceOf_25 (fun r_4 hr_4 => ?_)
        subst r_4
        refine zv_icmp_ge hx hb dX2_nearestPlaceOf_28 (tgt := 86) (by decide) ⟨by omega, by omega⟩ ⟨by omega, by omega⟩ (fun c_5 => ?_) (fun c_5 => ?_)
        · refine zv_iconst hx hb dX2_nearestPlaceOf_86 ?_
          exact MM_iret (g, h, ct) hx hb hr hlk hP hD hS (Nat.le_of_ble_eq_true rfl) (Nat.le_of_ble_eq_true rfl) dX2_nearestPlaceOf_87 (by rw [bsF_e hG (by omega)]; exact ⟨rfl, hsp⟩)
        · have hil : i.toNat < S.1.length := by omega
          have hpt := hat i.toNat hil
          have hgf := hBI.2.2.2.1 _ (List.mem_of_getElem? (bsAt_some hil))
          obtain ⟨hf0, hf1, hf2⟩ := hgf.pl
          refine lv_aload_n hx hb dX2_nearestPlaceOf_31 rfl (lv_at hl 0 rfl) ?_
          refine va_get (D := D) (ci := 2) (v := .ref s2) (C := RX2) (T := TX2) (N := 7) hx hb hts uX2 hown hK.1 hP 0 rfl rfl 3 (by decide) (hts _ q_160) (fun _ h9 => h9) rfl dX2_nearestPlaceOf_32 ?_
          refine lv_iload_n hx hb dX2_nearestPlaceOf_35 rfl (lv_at hl 2 rfl) ?_
          refine zc_V (As := [.int (iI i)]) (rest := []) (ws := [(tt, .inr (2, [.ref fl, .int (iI lim), .ref s1, .ref s2, .int (iI bs), .int (iI P), .int (iI sm)])), (fl, .inr (0, [.int (iI C), .int (iI R), .ref pn, .int (iI np)])), (pn, .inl (cI, 49, .inl (aI gn))), (s1, .inr (1, [.ref d1, .ref r1, .int (iI c1)])), (d1, .inl (cI, 16807, .inl (aI g1))), (s2, .inr (1, [.ref d2, .ref r2, .int (iI ct)])), (d2, .inl (cI, 16807, .inl (aI g))), (r2, .inl (cI, 9163, .inl (aI h)))]) (n := 1) hx hb (hml.trans hl.1.symm) hts hown hK hP (c_X1_placeAt l D cI cJ s2 d2 r2 ct h i (by omega) (by omega) (by omega) (by omega)) (gd_V q_93 q_94 q_95 q_2 q_96) (by decide +kernel) rfl ⟨Nat.le_of_ble_eq_true rfl, Nat.le_of_ble_eq_true rfl⟩ ⟨Nat.le_of_ble_eq_true rfl, Nat.le_of_ble_eq_true rfl⟩ [5, 7] rfl 5 (ci := 1) rfl rfl rfl rfl (Nat.le_of_ble_eq_true rfl) dX2_nearestPlaceOf_36 (fun r_6 hr_6 => ?_)
          subst r_6
          refine zv_top (y := (bsAt S i.toNat)) (hpt) ?_
          refine lv_istore_n (lv' := [(3, .int (iI (bsAt S i.toNat))), (0, .ref tt), (1, .int (iI q)), (2, .int (iI i))]) hx hb dX2_nearestPlaceOf_39 rfl hl (by decide) rfl (fun ls hl => ?_)
          refine lv_iload_n hx hb dX2_nearestPlaceOf_40 rfl (lv_at hl 0 rfl) ?_
          refine zc_S (As := [.int (iI (bsAt S i.toNat))]) (rest := []) (ws := [(tt, .inr (2, [.ref fl, .int (iI lim), .ref s1, .ref s2, .int (iI bs), .int (iI P), .int (iI sm)])), (fl, .inr (0, [.int (iI C), .int (iI R), .ref pn, .int (iI np)])), (pn, .inl (cI, 49, .inl (aI gn))), (s1, .inr (1, [.ref d1, .ref r1, .int (iI c1)])), (d1, .inl (cI, 16807, .inl (aI g1))), (s2, .inr (1, [.ref d2, .ref r2, .int (iI ct)])), (d2, .inl (cI, 16807, .inl (aI g))), (r2, .inl (cI, 9163, .inl (aI h)))]) (n := 1) hx hb (hml.trans hl.1.symm) hts hown hK hP (c_X2_squareOf l D cI cJ (bsAt S i.toNat) (by omega) (by omega)) (gd_S q_183 q_102 q_1 q_103) (by decide +kernel) rfl ⟨Nat.le_of_ble_eq_true rfl, Nat.le_of_ble_eq_true rfl⟩ ⟨Nat.le_of_ble_eq_true rfl, Nat.le_of_ble_eq_true rfl⟩ [] rfl rfl (Nat.le_of_ble_eq_true rfl) dX2_nearestPlaceOf_41 (fun r_7 hr_7 => ?_)
          subst r_7
          refine lv_iload_n hx hb dX2_nearestPlaceOf_44 rfl (lv_at hl 2 rfl) ?_
          refine zv_icmp_ne hx hb dX2_nearestPlaceOf_45 (tgt := 50) (by decide) ⟨by omega, by omega⟩ ⟨by omega, by omega⟩ (fun c_8 => ?_) (fun c_8 => ?_)
          · have hnq : ¬ bsAt S i.toNat / 343 = q := by assumption
            refine zv_iconst hx hb dX2_nearestPlaceOf_50 ?_
            refine lv_istore (lv' := [(4, .int (iI 0)), (3, .int (iI (bsAt S i.toNat))), (0, .ref tt), (1, .int (iI q)), (2, .int (iI i))]) hx hb dX2_nearestPlaceOf_51 hl (by decide) rfl (fun ls hl => ?_)
            have loop53 : ∀ (nn : Nat) (dd : Int) (f : Nat → Int) (fh : Nat → Int) (fc : Int), (0 ≤ dd) → (dd ≤ 4) → (SpOK (bsK (astZ C R N L lim) S (bsAt S i.toNat) dd.toNat) f fh fc) → (∀ z, (bsK (astZ C R N L lim) S (bsAt S i.toNat) dd.toNat).2.1 z < ((bsK (astZ C R N L lim) S (bsAt S i.toNat) dd.toNat).1.length : Int)) → (4 - dd < (nn : Int)) → ∀ (H : Heap) (locs : List Loc), va_P D vwCl [(tt, .inr (2, [.ref fl, .int (iI lim), .ref s1, .ref s2, .int (iI bs), .int (iI P), .int (iI sm)])), (fl, .inr (0, [.int (iI C), .int (iI R), .ref pn, .int (iI np)])), (pn, .inl (cI, 49, .inl (aI gn))), (s1, .inr (1, [.ref d1, .ref r1, .int (iI c1)])), (d1, .inl (cI, 16807, .inl (aI g1))), (s2, .inr (1, [.ref d2, .ref r2, .int (iI fc)])), (d2, .inl (cI, 16807, .inl (aI f))), (r2, .inl (cI, 9163, .inl (aI fh)))] H → va_D A [(tt, .inr (2, [.ref fl, .int (iI lim), .ref s1, .ref s2, .int (iI bs), .int (iI P), .int (iI sm)])), (fl, .inr (0, [.int (iI C), .int (iI R), .ref pn, .int (iI np)])), (pn, .inl (cI, 49, .inl (aI gn))), (s1, .inr (1, [.ref d1, .ref r1, .int (iI c1)])), (d1, .inl (cI, 16807, .inl (aI g1))), (s2, .inr (1, [.ref d2, .ref r2, .int (iI fc)])), (d2, .inl (cI, 16807, .inl (aI f))), (r2, .inl (cI, 9163, .inl (aI fh)))] → va_S A s.heap H locs → ∀ ls : Array Slot, lv_has ls 5 [(0, .ref tt), (1, .int (iI q)), (2, .int (iI i)), (3, .int (iI (bsAt S i.toNat))), (4, .int (iI dd))] → W p l e (rmM 6 0 0) s m [.ref tt, .int (iI q)].toArray below meth c H locs 0 0 (MQ below (QMi D A (fun (r : Int) (u : (Nat → Int) × (Nat → Int) × Int) => r = (bsF (astZ C R N L lim) q 16807 0 (bs0 P)).1 ∧ SpOK (bsF (astZ C R N L lim) q 16807 0 (bs0 P)).2 u.1 u.2.1 u.2.2) (fun u : (Nat → Int) × (Nat → Int) × Int => [(tt, .inr (2, [.ref fl, .int (iI lim), .ref s1, .ref s2, .int (iI bs), .int (iI P), .int (iI sm)])), (fl, .inr (0, [.int (iI C), .int (iI R), .ref pn, .int (iI np)])), (pn, .inl (cI, 49, .inl (aI gn))), (s1, .inr (1, [.ref d1, .ref r1, .int (iI c1)])), (d1, .inl (cI, 16807, .inl (aI g1))), (s2, .inr (1, [.ref d2, .ref r2, .int (iI u.2.2)])), (d2, .inl (cI, 16807, .inl (aI u.1))), (r2, .inl (cI, 9163, .inl (aI u.2.1)))])) [.ref tt, .int (iI q)].toArray s 0 0 A) (F0 m 53 ls []) := by
              intro nn
              induction nn with
              | zero => intro dd f fh fc hd0 hd1 hsq hbe hms; exfalso; omega
              | succ nn ih53 =>
                intro dd f fh fc hd0 hd1 hsq hbe hms H locs hP hD hS ls hl
                have hBK := BI_K hBI (bsAt_some hil) (fun d k1 k2 => hgd _ d k1 k2) dd.toNat (by omega)
                refine lv_iload hx hb dX2_nearestPlaceOf_53 (lv_at hl 4 rfl) ?_
                refine zv_iconst hx hb dX2_nearestPlaceOf_55 ?_
                refine zv_icmp_ge hx hb dX2_nearestPlaceOf_56 (tgt := 80) (by decide) ⟨by omega, by omega⟩ ⟨by omega, by omega⟩ (fun c_9 => ?_) (fun c_9 => ?_)
                · have hd4 : dd.toNat = 4 := by omega
                  refine zv_iinc (k := 2) (lv' := [(2, .int (iI (i + 1))), (0, .ref tt), (1, .int (iI q)), (3, .int (iI (bsAt S i.toNat))), (4, .int (iI dd))]) hx hb dX2_nearestPlaceOf_80 hl rfl (by decide) rfl (fun ls hl => ?_)
                  refine lv_goto (tgt := 13) hx hb dX2_nearestPlaceOf_83 (by decide) ?_
                  exact ih13 (i + 1) (bsK (astZ C R N L lim) S (bsAt S i.toNat) 4) f fh fc (by omega) (by omega) (by rw [show (i + 1).toNat = i.toNat + 1 by omega, show 16807 - (i.toNat + 1) = 16806 - i.toNat by omega]; exact bsF_s (by rw [show 16806 - i.toNat + 1 = 16807 - i.toNat by omega]; exact hG) hil hnq) (by rw [show (i + 1).toNat = i.toNat + 1 by omega]; exact BI_i (by rw [← hd4]; exact hBK) (by omega)) (by rw [← hd4]; exact hsq) (by rw [← hd4]; exact hbe) (by omega) _ _ hP hD hS ls (lv_sub hl [1, 2, 0] rfl)
                · refine lv_aload_n hx hb dX2_nearestPlaceOf_59 rfl (lv_at hl 0 rfl) ?_
                  refine va_get (D := D) (ci := 2) (v := .ref s2) (C := RX2) (T := TX2) (N := 7) hx hb hts uX2 hown hK.1 hP 0 rfl rfl 3 (by decide) (hts _ q_160) (fun _ h9 => h9) rfl dX2_nearestPlaceOf_60 ?_
                  refine lv_aload_n hx hb dX2_nearestPlaceOf_63 rfl (lv_at hl 0 rfl) ?_
                  refine lv_iload_n hx hb dX2_nearestPlaceOf_64 rfl (lv_at hl 3 rfl) ?_
                  refine lv_iload hx hb dX2_nearestPlaceOf_65 (lv_at hl 4 rfl) ?_
                  refine zc_V (As := [.int (iI (bsAt S i.toNat)), .int (iI dd)]) (rest := [.ref s2]) (ws := [(tt, .inr (2, [.ref fl, .int (iI lim), .ref s1, .ref s2, .int (iI bs), .int (iI P), .int (iI sm)])), (fl, .inr (0, [.int (iI C), .int (iI R), .ref pn, .int (iI np)])), (pn, .inl (cI, 49, .inl (aI gn))), (s1, .inr (1, [.ref d1, .ref r1, .int (iI c1)])), (d1, .inl (cI, 16807, .inl (aI g1))), (s2, .inr (1, [.ref d2, .ref r2, .int (iI fc)])), (d2, .inl (cI, 16807, .inl (aI f))), (r2, .inl (cI, 9163, .inl (aI fh)))]) (n := 2) hx hb (hml.trans hl.1.symm) hts hown hK hP (c_X2_afterStep l D cI cJ tt fl s1 s2 pn d1 r1 lim bs P sm C R np c1 gn g1 N L (bsAt S i.toNat) dd hF hL hlm (by omega) (by omega) (by omega) (by omega) (by omega)) (gd_V q_376 q_378 q_1011 q_1 q_379) (by decide +kernel) rfl ⟨Nat.le_of_ble_eq_true rfl, Nat.le_of_ble_eq_true rfl⟩ ⟨Nat.le_of_ble_eq_true rfl, Nat.le_of_ble_eq_true rfl⟩ [0, 1, 2, 3, 4] rfl 0 (ci := 2) rfl rfl rfl rfl (Nat.le_of_ble_eq_true rfl) dX2_nearestPlaceOf_67 (fun r_10 hr_10 => ?_)
                  subst r_10
                  refine lv_iload_n hx hb dX2_nearestPlaceOf_70 rfl (lv_at hl 3 rfl) ?_
                  have hab := astZ_b hF (L := L) (lim := lim) (d := dd) hf0 hf1 hf2
                  have hBd := BI_d hBK (bsK_at _ _ _ _ _ _ (bsAt_some hil)) (by omega) (by omega) (fun k1 k2 => hgd _ _ (by omega) (by omega) k1 k2)
                  rw [Int.toNat_of_nonneg hd0] at hBd
                  have hln9 := gd_len hBd.1 hBd.2.2.2.1
                  have hmf := hBK.2.2.1 (bsAt S i.toNat)
                  have hmg : 0 ≤ (bsK (astZ C R N L lim) S (bsAt S i.toNat) dd.toNat).2.1 (bsAt S i.toNat) := by rcases hmf with k | k <;> first | exact k.1 | exact absurd (List.mem_of_getElem? (bsK_at _ _ _ _ _ _ (bsAt_some hil))) k.2
                  have hbf := hbe (bsAt S i.toNat)
                  have hlq := hsq.2.2.1
                  refine zm_Vv (As := [.int (iI (astZ C R N L lim (bsAt S i.toNat) dd)), .int (iI (bsAt S i.toNat))]) (rest := []) (ws := [(tt, .inr (2, [.ref fl, .int (iI lim), .ref s1, .ref s2, .int (iI bs), .int (iI P), .int (iI sm)])), (fl, .inr (0, [.int (iI C), .int (iI R), .ref pn, .int (iI np)])), (pn, .inl (cI, 49, .inl (aI gn))), (s1, .inr (1, [.ref d1, .ref r1, .int (iI c1)])), (d1, .inl (cI, 16807, .inl (aI g1))), (s2, .inr (1, [.ref d2, .ref r2, .int (iI fc)])), (d2, .inl (cI, 16807, .inl (aI f))), (r2, .inl (cI, 9163, .inl (aI fh)))]) (wr := [(tt, .inr (2, [.ref fl, .int (iI lim), .ref s1, .ref s2, .int (iI bs), .int (iI P), .int (iI sm)])), (fl, .inr (0, [.int (iI C), .int (iI R), .ref pn, .int (iI np)])), (pn, .inl (cI, 49, .inl (aI gn))), (s1, .inr (1, [.ref d1, .ref r1, .int (iI c1)])), (d1, .inl (cI, 16807, .inl (aI g1)))]) (n := 2) hx hb (hml.trans hl.1.symm) hts hown hK hP hD hS hA (c_X1_reach l D cI cJ s2 d2 r2 fc f fh (astZ C R N L lim (bsAt S i.toNat) dd) (bsAt S i.toNat) (bsK (astZ C R N L lim) S (bsAt S i.toNat) dd.toNat) hsq (by omega) (by omega) (by omega) (by omega) (by omega) (by omega) hln9 _) (gd_V q_149 q_150 q_151 q_2 q_152) (by decide +kernel) rfl ⟨Nat.le_of_ble_eq_true rfl, Nat.le_of_ble_eq_true rfl⟩ ⟨Nat.le_of_ble_eq_true rfl, Nat.le_of_ble_eq_true rfl⟩ [5, 6, 7] [0, 1, 2, 3, 4] rfl rfl (by decide) (by decide) (by decide) 5 (ci := 1) rfl rfl rfl rfl (Nat.le_of_ble_eq_true rfl) dX2_nearestPlaceOf_71 (fun u H locs hq_11 hP hD hS => ?_)
                  obtain ⟨g9, h9, c9⟩ := u
                  have hP := hP.sub (ws' := [(tt, .inr (2, [.ref fl, .int (iI lim), .ref s1, .ref s2, .int (iI bs), .int (iI P), .int (iI sm)])), (fl, .inr (0, [.int (iI C), .int (iI R), .ref pn, .int (iI np)])), (pn, .inl (cI, 49, .inl (aI gn))), (s1, .inr (1, [.ref d1, .ref r1, .int (iI c1)])), (d1, .inl (cI, 16807, .inl (aI g1))), (s2, .inr (1, [.ref d2, .ref r2, .int (iI c9)])), (d2, .inl (cI, 16807, .inl (aI g9))), (r2, .inl (cI, 9163, .inl (aI h9)))]) [0, 1, 2, 3, 4, 5, 6, 7] rfl
                  have hD := hD.sub (ws' := [(tt, .inr (2, [.ref fl, .int (iI lim), .ref s1, .ref s2, .int (iI bs), .int (iI P), .int (iI sm)])), (fl, .inr (0, [.int (iI C), .int (iI R), .ref pn, .int (iI np)])), (pn, .inl (cI, 49, .inl (aI gn))), (s1, .inr (1, [.ref d1, .ref r1, .int (iI c1)])), (d1, .inl (cI, 16807, .inl (aI g1))), (s2, .inr (1, [.ref d2, .ref r2, .int (iI c9)])), (d2, .inl (cI, 16807, .inl (aI g9))), (r2, .inl (cI, 9163, .inl (aI h9)))]) [0, 1, 2, 3, 4, 5, 6, 7] (by decide) rfl
                  try dsimp only at hq_11
                  have hrc := hq_11
                  refine zv_iinc (k := 4) (lv' := [(4, .int (iI (dd + 1))), (0, .ref tt), (1, .int (iI q)), (2, .int (iI i)), (3, .int (iI (bsAt S i.toNat)))]) hx hb dX2_nearestPlaceOf_74 hl rfl (by decide) rfl (fun ls hl => ?_)
                  refine lv_goto (tgt := 53) hx hb dX2_nearestPlaceOf_77 (by decide) ?_
                  exact ih53 (dd + 1) g9 h9 c9 (by omega) (by omega) (by rw [show (dd + 1).toNat = dd.toNat + 1 by omega]; show SpOK (bsR _ (astZ C R N L lim (bsAt S i.toNat) (dd.toNat : Int)) _) _ _ _; rw [Int.toNat_of_nonneg hd0]; exact hrc) (by rw [show (dd + 1).toNat = dd.toNat + 1 by omega]; exact bsR_b hbe) (by omega) _ _ hP hD hS ls (lv_sub hl [1, 2, 3, 4, 0] rfl)
            exact loop53 5 0 g h ct (by omega) (by omega) hsp hbd (by omega) _ _ hP hD hS ls (lv_sub hl [2, 3, 4, 1, 0] rfl)
          · refine lv_iload_n hx hb dX2_nearestPlaceOf_48 rfl (lv_at hl 0 rfl) ?_
            exact MM_iret (g, h, ct) hx hb hr hlk hP hD hS (Nat.le_of_ble_eq_true rfl) (Nat.le_of_ble_eq_true rfl) dX2_nearestPlaceOf_49 (by rw [bsF_q hG (by omega) hil (by assumption)]; exact ⟨rfl, hsp⟩)
  exact loop13 16808 0 (bs0 P) g0 h0 c0 (by omega) (by omega) rfl (BI_0 hPg) hbg (fun z => by show (if z = P then (0 : Int) else -1) < 1; split <;> omega) (by omega) _ _ hP hD hS ls (lv_sub hl [1, 2, 0] rfl)
end
section
/-- the reference's arrays hold a search's state: its lengths and its queue -/
def MSOK (S : BS) (gl gq : Nat → Int) : Prop := MLen S.2.1 gl ∧ ∀ j : Nat, j < S.1.length → gq j = tauZ (bsAt S j)
theorem tauZ_inj {x y : Int} (hx0 : 0 ≤ x) (hx : x < 16807) (hy0 : 0 ≤ y) (hy : y < 16807) (h : tauZ x = tauZ y) : x = y := by
  rw [← tauZ_tauZ hx0 hx, h, tauZ_tauZ hy0 hy]
theorem bsR_D {S : BS} {q f : Int} (hc : q ≠ -1 ∧ S.2.1 q = -1) (z : Int) : (bsR S q f).2.1 z = (if z = q then S.2.1 f + 1 else S.2.1 z) ∧ (bsR S q f).2.2 z = if z = q then f else S.2.2 z := by
  have e : bsR S q f = (S.1 ++ [q], fun z => if z = q then S.2.1 f + 1 else S.2.1 z, fun z => if z = q then f else S.2.2 z) := if_pos hc
  rw [e]
  exact ⟨rfl, rfl⟩
theorem MSOK_0 {s : Int} {gl gq : Nat → Int} (hs0 : 0 ≤ s) (hs : s < 16807) (hg : ∀ k : Nat, (k : Int) < 16807 → gl k = -1) : MSOK (bs0 s) (updZ gl (tauZ s).toNat 0) (updZ gq 0 (tauZ s)) := by
  have ht := tauZ_of hs0 hs
  refine ⟨⟨fun z z0 z1 => ?_, fun z => ?_, fun z hz => ?_⟩, fun j hj => ?_⟩
  · show updZ gl (tauZ s).toNat 0 (tauZ z).toNat = if z = s then 0 else -1
    have hz := tauZ_of z0 z1
    by_cases hzs : z = s
    · rw [if_pos hzs, hzs, updZ_s]
    · rw [if_neg hzs, updZ_n]
      · exact hg _ (by omega)
      · intro e
        exact hzs (tauZ_inj z0 z1 hs0 hs (by omega))
  · show -1 ≤ (if z = s then (0 : Int) else -1) ∧ (if z = s then (0 : Int) else -1) < 20000
    split <;> omega
  · show (if z = s then (0 : Int) else -1) = -1
    rw [if_neg (by omega)]
  · have hj : j < 1 := hj
    rw [show j = 0 by omega]
    exact updZ_s _ _ _
theorem MSOK_R {S : BS} {gl gq : Nat → Int} {a f : Int} (hS : MSOK S gl gq) (hc : a ≠ -1 ∧ S.2.1 a = -1) (ha0 : 0 ≤ a) (ha : a < 16807) (hf : 0 ≤ S.2.1 f) (hf2 : S.2.1 f < 19999) : MSOK (bsR S a f) (updZ gl (tauZ a).toNat (S.2.1 f + 1)) (updZ gq S.1.length (tauZ a)) := by
  obtain ⟨⟨h1, h2, h3⟩, h6⟩ := hS
  obtain ⟨p1, p2, p3⟩ := bsAt_push (f := f) hc
  have hat := tauZ_of ha0 ha
  refine ⟨⟨fun z z0 z1 => ?_, fun z => ?_, fun z hz => ?_⟩, fun j hj => ?_⟩
  · rw [(bsR_D hc z).1]
    have hz := tauZ_of z0 z1
    by_cases hza : z = a
    · rw [if_pos hza, hza, updZ_s]
    · rw [if_neg hza, updZ_n]
      · exact h1 z z0 z1
      · intro e
        exact hza (tauZ_inj z0 z1 ha0 ha (by omega))
  · rw [(bsR_D hc z).1]
    have := h2 z
    split <;> omega
  · rw [(bsR_D hc z).1, if_neg (by omega)]
    exact h3 z hz
  · by_cases hj2 : j < S.1.length
    · rw [p1 j hj2, updZ_n (by omega)]
      exact h6 j hj2
    · rw [show j = S.1.length by omega, p2, updZ_s]
/-- .. its parents and its queue -/
def MBOK (S : BS) (gb gq : Nat → Int) : Prop := (∀ z : Int, 0 ≤ z → z < 16807 → gb (tauZ z).toNat = if S.2.1 z = -1 then -1 else tauZ (S.2.2 z)) ∧ ∀ j : Nat, j < S.1.length → gq j = tauZ (bsAt S j)
theorem MBOK_0 {s : Int} {gb gq : Nat → Int} (hs0 : 0 ≤ s) (hs : s < 16807) (hg : ∀ k : Nat, (k : Int) < 16807 → gb k = -1) : MBOK (bs0 s) (updZ gb (tauZ s).toNat (tauZ s)) (updZ gq 0 (tauZ s)) := by
  have ht := tauZ_of hs0 hs
  refine ⟨fun z z0 z1 => ?_, fun j hj => ?_⟩
  · show updZ gb (tauZ s).toNat (tauZ s) (tauZ z).toNat = if (if z = s then (0 : Int) else -1) = -1 then -1 else tauZ s
    have hz := tauZ_of z0 z1
    by_cases hzs : z = s
    · rw [if_pos hzs, if_neg (by decide), hzs, updZ_s]
    · rw [if_neg hzs, if_pos rfl, updZ_n]
      · exact hg _ (by omega)
      · intro e
        exact hzs (tauZ_inj z0 z1 hs0 hs (by omega))
  · have hj : j < 1 := hj
    rw [show j = 0 by omega]
    exact updZ_s _ _ _
theorem MBOK_R {S : BS} {gb gq : Nat → Int} {a f : Int} (hS : MBOK S gb gq) (hc : a ≠ -1 ∧ S.2.1 a = -1) (ha0 : 0 ≤ a) (ha : a < 16807) (hf : 0 ≤ S.2.1 f) : MBOK (bsR S a f) (updZ gb (tauZ a).toNat (tauZ f)) (updZ gq S.1.length (tauZ a)) := by
  obtain ⟨h1, h6⟩ := hS
  obtain ⟨p1, p2, p3⟩ := bsAt_push (f := f) hc
  have hat := tauZ_of ha0 ha
  refine ⟨fun z z0 z1 => ?_, fun j hj => ?_⟩
  · rw [(bsR_D hc z).1, (bsR_D hc z).2]
    have hz := tauZ_of z0 z1
    by_cases hza : z = a
    · rw [if_pos hza, if_pos hza, if_neg (by omega), hza, updZ_s]
    · rw [if_neg hza, if_neg hza, updZ_n]
      · exact h1 z z0 z1
      · intro e
        exact hza (tauZ_inj z0 z1 ha0 ha (by omega))
  · by_cases hj2 : j < S.1.length
    · rw [p1 j hj2, updZ_n (by omega)]
      exact h6 j hj2
    · rw [show j = S.1.length by omega, p2, updZ_s]
theorem bsAt_K (nb : Int → Int → Int) (S : BS) (f : Int) (d : Nat) {i : Nat} (h : i < S.1.length) : i < (bsK nb S f d).1.length ∧ bsAt (bsK nb S f d) i = bsAt S i := by
  have h1 := bsK_at nb S f d i _ (bsAt_some h)
  have h2 := (List.getElem?_eq_some_iff.mp h1).1
  exact ⟨h2, Option.some.inj ((bsAt_some h2).symm.trans h1)⟩
end
section
set_option maxRecDepth 100000 in
set_option maxHeartbeats 4000000 in
theorem c_X0_setPillar (l : Launch) (D : va_G) (cI cJ : ClassId) (fl pn : Nat) (C R np : Int) (gn : Nat → Int) (N : Int → Int) (q : Int) (hF : FlOK C R np N gn) (hn1 : np < 3) (hq0 : 0 ≤ q) (hq1 : q < 49) (sz : Nat) : MMi l yX0_setPillar (.code yX0_setPillar cX0_setPillar 3 (some .int)) 1 0 0 [.ref fl, .int (iI q)] D cI cJ [(fl, .inr (0, [.int (iI C), .int (iI R), .ref pn, .int (iI np)])), (pn, .inl (cI, 49, .inl (aI gn)))] sz (fun (r : Int) (u : Int × (Nat → Int)) => r = np ∧ u.1 = np + 1 ∧ u.2 = updZ gn (q).toNat np) (fun u : Int × (Nat → Int) => [(fl, .inr (0, [.int (iI C), .int (iI R), .ref pn, .int (iI u.1)])), (pn, .inl (cI, 49, .inl (aI u.2)))]) := by
  obtain ⟨hC1, hC2, hR1, hR2, hp1, hp2, -, -⟩ := id hF
  refine MM_of (Qc := fun A => QMi D A (fun (r : Int) (u : Int × (Nat → Int)) => r = np ∧ u.1 = np + 1 ∧ u.2 = updZ gn (q).toNat np) (fun u : Int × (Nat → Int) => [(fl, .inr (0, [.int (iI C), .int (iI R), .ref pn, .int (iI u.1)])), (pn, .inl (cI, 49, .inl (aI u.2)))])) (by decide) rfl (Nat.le_of_ble_eq_true rfl) (fun p e s m below meth c ls A hx hb hr hts hown hlk hml hin hK hP hD hA hS hl => ?_)
  have hl : lv_has ls 3 [(0, .ref fl), (1, .int (iI q))] := hl
  refine lv_aload_n hx hb dX0_setPillar_0 rfl (lv_at hl 0 rfl) ?_
  refine zc_V (As := []) (rest := []) (ws := [(fl, .inr (0, [.int (iI C), .int (iI R), .ref pn, .int (iI np)])), (pn, .inl (cI, 49, .inl (aI gn)))]) (n := 0) hx hb (hml.trans hl.1.symm) hts hown hK hP (c_X0_isFull l D cI cJ fl pn C R np gn N hF) (gd_V q_343 q_319 q_320 q_3 q_321) (by decide +kernel) rfl ⟨Nat.le_of_ble_eq_true rfl, Nat.le_of_ble_eq_true rfl⟩ ⟨Nat.le_of_ble_eq_true rfl, Nat.le_of_ble_eq_true rfl⟩ [0, 1] rfl 0 (ci := 0) rfl rfl rfl rfl (Nat.le_of_ble_eq_true rfl) dX0_setPillar_1 (fun r_1 hr_1 => ?_)
  refine zv_if_ne hx hb dX0_setPillar_4 (tgt := 20) (by decide) ⟨by omega, by omega⟩ (fun c_2 => by exfalso; omega) (fun c_2 => ?_)
  refine lv_iload_n hx hb dX0_setPillar_7 rfl (lv_at hl 1 rfl) ?_
  refine zv_if_lt hx hb dX0_setPillar_8 (tgt := 20) (by decide) ⟨by omega, by omega⟩ (fun c_3 => by exfalso; omega) (fun c_3 => ?_)
  refine lv_iload_n hx hb dX0_setPillar_11 rfl (lv_at hl 1 rfl) ?_
  refine lv_aload_n hx hb dX0_setPillar_12 rfl (lv_at hl 0 rfl) ?_
  refine va_get (D := D) (ci := 0) (v := .ref pn) (C := RX0) (T := TX0) (N := 4) hx hb hts uX0 hown hK.1 hP 0 rfl rfl 2 (by decide) (hts _ q_59) (fun _ h9 => h9) rfl dX0_setPillar_13 ?_
  refine zv_alen hx hb hK.1 hP 1 0 rfl rfl dX0_setPillar_16 ?_
  refine zv_icmp_lt hx hb dX0_setPillar_17 (tgt := 22) (by decide) ⟨by omega, by omega⟩ ⟨by omega, by omega⟩ (fun c_4 => ?_) (fun c_4 => by exfalso; omega)
  refine lv_aload_n hx hb dX0_setPillar_22 rfl (lv_at hl 0 rfl) ?_
  refine va_get (D := D) (ci := 0) (v := .int (iI np)) (C := RX0) (T := TX0) (N := 4) hx hb hts uX0 hown hK.1 hP 0 rfl rfl 3 (by decide) (hts _ q_60) (fun _ h9 => h9) rfl dX0_setPillar_23 ?_
  refine lv_istore_n (lv' := [(2, .int (iI np)), (0, .ref fl), (1, .int (iI q))]) hx hb dX0_setPillar_26 rfl hl (by decide) rfl (fun ls hl => ?_)
  refine lv_aload_n hx hb dX0_setPillar_27 rfl (lv_at hl 1 rfl) ?_
  refine va_get (D := D) (ci := 0) (v := .ref pn) (C := RX0) (T := TX0) (N := 4) hx hb hts uX0 hown hK.1 hP 0 rfl rfl 2 (by decide) (hts _ q_59) (fun _ h9 => h9) rfl dX0_setPillar_28 ?_
  refine lv_iload_n hx hb dX0_setPillar_31 rfl (lv_at hl 2 rfl) ?_
  refine lv_iload_n hx hb dX0_setPillar_32 rfl (lv_at hl 0 rfl) ?_
  refine zv_iast hx hb hK.1 hP hD hS 1 0 rfl rfl (by omega) (by omega) (by omega) (ws' := [(fl, .inr (0, [.int (iI C), .int (iI R), .ref pn, .int (iI np)])), (pn, .inl (cI, 49, .inl (aI (updZ gn (q).toNat np))))]) rfl dX0_setPillar_33 (fun H locs hP hD hS => ?_)
  refine lv_aload_n hx hb dX0_setPillar_34 rfl (lv_at hl 1 rfl) ?_
  refine lv_dup hx hb dX0_setPillar_35 rfl ?_
  refine va_get (D := D) (ci := 0) (v := .int (iI np)) (C := RX0) (T := TX0) (N := 4) hx hb hts uX0 hown hK.1 hP 0 rfl rfl 3 (by decide) (hts _ q_60) (fun _ h9 => h9) rfl dX0_setPillar_36 ?_
  refine zv_iconst hx hb dX0_setPillar_39 ?_
  refine zv_iadd hx hb dX0_setPillar_40 ?_
  refine va_put (D := D) (ci := 0) (v := .int (iI (np + 1))) (ty := .int) (C := RX0) (T := TX0) (N := 4) hx hb hts uX0 tyX0 tyX0_ok nmX0 hown hK.1 hP hD hS 0 rfl rfl 3 (by decide) (hts _ q_60) (fun _ h9 => h9) rfl (by decide +kernel) rfl rfl (Nat.le_of_ble_eq_true rfl) dX0_setPillar_41 (fun H locs hP hD hS => ?_)
  have hP : va_P D vwCl [(fl, .inr (0, [.int (iI C), .int (iI R), .ref pn, .int (iI (np + 1))])), (pn, .inl (cI, 49, .inl (aI (updZ gn (q).toNat np))))] H := hP
  have hD : va_D A [(fl, .inr (0, [.int (iI C), .int (iI R), .ref pn, .int (iI (np + 1))])), (pn, .inl (cI, 49, .inl (aI (updZ gn (q).toNat np))))] := hD
  refine lv_iload_n hx hb dX0_setPillar_44 rfl (lv_at hl 0 rfl) ?_
  exact MM_iret ((np + 1), (updZ gn (q).toNat np)) hx hb hr hlk hP hD hS (Nat.le_of_ble_eq_true rfl) (Nat.le_of_ble_eq_true rfl) dX0_setPillar_45 (⟨rfl, rfl, rfl⟩)
set_option maxRecDepth 100000 in
set_option maxHeartbeats 4000000 in
theorem c_X0_init (l : Launch) (D : va_G) (cI cJ : ClassId) (fl : Nat) (C R : Int) (sz : Nat) : MMv l yX0_init (.code yX0_init cX0_init 3 none) 1 1 49 [.ref fl, .int (iI C), .int (iI R)] D cI cJ [(fl, .inr (0, [.int (iI 0), .int (iI 0), .null, .int (iI 0)]))] sz (fun (u : Nat × (Nat → Int)) => ∀ k : Nat, k < 49 → u.2 k = -1) (fun u : Nat × (Nat → Int) => [(fl, .inr (0, [.int (iI C), .int (iI R), .ref u.1, .int (iI 0)])), (u.1, .inl (cI, 49, .inl (aI u.2)))]) := by
  refine MM_of (Qc := fun A => QMv D A (fun (u : Nat × (Nat → Int)) => ∀ k : Nat, k < 49 → u.2 k = -1) (fun u : Nat × (Nat → Int) => [(fl, .inr (0, [.int (iI C), .int (iI R), .ref u.1, .int (iI 0)])), (u.1, .inl (cI, 49, .inl (aI u.2)))])) (by decide) rfl (Nat.le_of_ble_eq_true rfl) (fun p e s m below meth c ls A hx hb hr hts hown hlk hml hin hK hP hD hA hS hl => ?_)
  have hl : lv_has ls 3 [(0, .ref fl), (1, .int (iI C)), (2, .int (iI R))] := hl
  refine lv_aload_n hx hb dX0_init_0 rfl (lv_at hl 0 rfl) ?_
  refine W.objInit hx hb hown (hts _ q_53) (hts _ q_20) (hts _ q_21) rfl (by rw [hml]; exact hl.1) rfl dX0_init_1 (Nat.le_of_ble_eq_true rfl) (Nat.le_of_ble_eq_true rfl) ?_
  refine W.eq (g2 := F0 m 4 ls []) rfl ?_
  refine lv_aload_n hx hb dX0_init_4 rfl (lv_at hl 0 rfl) ?_
  refine zv_bipush hx hb dX0_init_5 (by decide) ?_
  refine zm_newa (z := 49) (n := 49) hx hb (hts _ q_38) hK hP hD hS hA rfl (Nat.le_of_ble_eq_true rfl) (Nat.le_of_ble_eq_true rfl) (Nat.le_of_ble_eq_true rfl) dX0_init_7 (fun a_1 H hP hD hS => ?_)
  have hP : va_P D vwCl [(fl, .inr (0, [.int (iI 0), .int (iI 0), .null, .int (iI 0)])), (a_1, .inl (cI, 49, .inl (aI (fun _ => 0))))] H := hP
  have hD : va_D A [(fl, .inr (0, [.int (iI 0), .int (iI 0), .null, .int (iI 0)])), (a_1, .inl (cI, 49, .inl (aI (fun _ => 0))))] := hD
  refine va_putF (D := D) (ci := 0) (v := .ref a_1) (ty := (.array .int)) (C := RX0) (T := TX0) (N := 4) hx hb hts uX0 tyX0 tyX0_ok nmX0 hown hK.1 hP hD hS 0 rfl rfl 2 (by decide) (hts _ q_59) (fun _ h9 => h9) rfl hin rfl (by decide +kernel) rfl rfl (Nat.le_of_ble_eq_true rfl) dX0_init_9 (fun H locs hP hD hS => ?_)
  have hP : va_P D vwCl [(fl, .inr (0, [.int (iI 0), .int (iI 0), .ref a_1, .int (iI 0)])), (a_1, .inl (cI, 49, .inl (aI (fun _ => 0))))] H := hP
  have hD : va_D A [(fl, .inr (0, [.int (iI 0), .int (iI 0), .ref a_1, .int (iI 0)])), (a_1, .inl (cI, 49, .inl (aI (fun _ => 0))))] := hD
  refine lv_aload_n hx hb dX0_init_12 rfl (lv_at hl 0 rfl) ?_
  refine lv_iload_n hx hb dX0_init_13 rfl (lv_at hl 1 rfl) ?_
  refine va_putF (D := D) (ci := 0) (v := .int (iI C)) (ty := .int) (C := RX0) (T := TX0) (N := 4) hx hb hts uX0 tyX0 tyX0_ok nmX0 hown hK.1 hP hD hS 0 rfl rfl 0 (by decide) (hts _ q_57) (fun _ h9 => h9) rfl hin rfl (by decide +kernel) rfl rfl (Nat.le_of_ble_eq_true rfl) dX0_init_14 (fun H locs hP hD hS => ?_)
  have hP : va_P D vwCl [(fl, .inr (0, [.int (iI C), .int (iI 0), .ref a_1, .int (iI 0)])), (a_1, .inl (cI, 49, .inl (aI (fun _ => 0))))] H := hP
  have hD : va_D A [(fl, .inr (0, [.int (iI C), .int (iI 0), .ref a_1, .int (iI 0)])), (a_1, .inl (cI, 49, .inl (aI (fun _ => 0))))] := hD
  refine lv_aload_n hx hb dX0_init_17 rfl (lv_at hl 0 rfl) ?_
  refine lv_iload_n hx hb dX0_init_18 rfl (lv_at hl 2 rfl) ?_
  refine va_putF (D := D) (ci := 0) (v := .int (iI R)) (ty := .int) (C := RX0) (T := TX0) (N := 4) hx hb hts uX0 tyX0 tyX0_ok nmX0 hown hK.1 hP hD hS 0 rfl rfl 1 (by decide) (hts _ q_58) (fun _ h9 => h9) rfl hin rfl (by decide +kernel) rfl rfl (Nat.le_of_ble_eq_true rfl) dX0_init_19 (fun H locs hP hD hS => ?_)
  have hP : va_P D vwCl [(fl, .inr (0, [.int (iI C), .int (iI R), .ref a_1, .int (iI 0)])), (a_1, .inl (cI, 49, .inl (aI (fun _ => 0))))] H := hP
  have hD : va_D A [(fl, .inr (0, [.int (iI C), .int (iI R), .ref a_1, .int (iI 0)])), (a_1, .inl (cI, 49, .inl (aI (fun _ => 0))))] := hD
  refine lv_aload_n hx hb dX0_init_22 rfl (lv_at hl 0 rfl) ?_
  refine va_get (D := D) (ci := 0) (v := .ref a_1) (C := RX0) (T := TX0) (N := 4) hx hb hts uX0 hown hK.1 hP 0 rfl rfl 2 (by decide) (hts _ q_59) (fun _ h9 => h9) rfl dX0_init_23 ?_
  refine zv_iconst hx hb dX0_init_26 ?_
  refine zm_Sv (As := [.ref a_1, .int (iI (-1))]) (rest := []) (ws := [(fl, .inr (0, [.int (iI C), .int (iI R), .ref a_1, .int (iI 0)])), (a_1, .inl (cI, 49, .inl (aI (fun _ => 0))))]) (wr := [(fl, .inr (0, [.int (iI C), .int (iI R), .ref a_1, .int (iI 0)]))]) (n := 2) hx hb (hml.trans hl.1.symm) hts hown hK hP hD hS hA (c_J7_fill_53178 l D cI cJ a_1 49 (-1) (fun _ => 0) (Nat.le_of_ble_eq_true rfl) _) (gd_vaS q_54 q_55 q_5 q_56) (by decide +kernel) rfl ⟨Nat.le_of_ble_eq_true rfl, Nat.le_of_ble_eq_true rfl⟩ ⟨Nat.le_of_ble_eq_true rfl, Nat.le_of_ble_eq_true rfl⟩ [1] [0] rfl rfl (by decide) (by decide) (by decide) rfl (Nat.le_of_ble_eq_true rfl) dX0_init_27 (fun u H locs hq_2 hP hD hS => ?_)
  obtain ⟨gf, rfl⟩ : ∃ z, z = u := ⟨_, rfl⟩
  have hP := hP.sub (ws' := [(fl, .inr (0, [.int (iI C), .int (iI R), .ref a_1, .int (iI 0)])), (a_1, .inl (cI, 49, .inl (aI gf)))]) [0, 1] rfl
  have hD := hD.sub (ws' := [(fl, .inr (0, [.int (iI C), .int (iI R), .ref a_1, .int (iI 0)])), (a_1, .inl (cI, 49, .inl (aI gf)))]) [0, 1] (by decide) rfl
  try dsimp only at hq_2
  have hfill := hq_2
  exact MM_vret (a_1, gf) hx hb hr hlk hP hD hS (Nat.le_of_ble_eq_true rfl) (Nat.le_of_ble_eq_true rfl) dX0_init_30 (hfill)
set_option maxRecDepth 100000 in
set_option maxHeartbeats 4000000 in
theorem c_X1_init (l : Launch) (D : va_G) (cI cJ : ClassId) (sp : Nat) (sz : Nat) : MMv l yX1_init (.code yX1_init cX1_init 1 none) 1 2 25970 [.ref sp] D cI cJ [(sp, .inr (1, [.null, .null, .int (iI 0)]))] sz (fun (u : Nat × Nat) => True) (fun u : Nat × Nat => [(sp, .inr (1, [.ref u.1, .ref u.2, .int (iI 0)])), (u.1, .inl (cI, 16807, .inl (aI (fun _ => 0)))), (u.2, .inl (cI, 9163, .inl (aI (fun _ => 0))))]) := by
  refine MM_of (Qc := fun A => QMv D A (fun (u : Nat × Nat) => True) (fun u : Nat × Nat => [(sp, .inr (1, [.ref u.1, .ref u.2, .int (iI 0)])), (u.1, .inl (cI, 16807, .inl (aI (fun _ => 0)))), (u.2, .inl (cI, 9163, .inl (aI (fun _ => 0))))])) (by decide) rfl (Nat.le_of_ble_eq_true rfl) (fun p e s m below meth c ls A hx hb hr hts hown hlk hml hin hK hP hD hA hS hl => ?_)
  have hl : lv_has ls 1 [(0, .ref sp)] := hl
  refine lv_aload_n hx hb dX1_init_0 rfl (lv_at hl 0 rfl) ?_
  refine W.objInit hx hb hown (hts _ q_27) (hts _ q_20) (hts _ q_21) rfl (by rw [hml]; exact hl.1) rfl dX1_init_1 (Nat.le_of_ble_eq_true rfl) (Nat.le_of_ble_eq_true rfl) ?_
  refine W.eq (g2 := F0 m 4 ls []) rfl ?_
  refine lv_aload_n hx hb dX1_init_4 rfl (lv_at hl 0 rfl) ?_
  refine zv_sipush hx hb dX1_init_5 (by decide) ?_
  refine zm_newa (z := 16807) (n := 16807) hx hb (hts _ q_38) hK hP hD hS hA rfl (Nat.le_of_ble_eq_true rfl) (Nat.le_of_ble_eq_true rfl) (Nat.le_of_ble_eq_true rfl) dX1_init_8 (fun a_1 H hP hD hS => ?_)
  have hP : va_P D vwCl [(sp, .inr (1, [.null, .null, .int (iI 0)])), (a_1, .inl (cI, 16807, .inl (aI (fun _ => 0))))] H := hP
  have hD : va_D A [(sp, .inr (1, [.null, .null, .int (iI 0)])), (a_1, .inl (cI, 16807, .inl (aI (fun _ => 0))))] := hD
  refine va_putF (D := D) (ci := 1) (v := .ref a_1) (ty := (.array .int)) (C := RX1) (T := TX1) (N := 3) hx hb hts uX1 tyX1 tyX1_ok nmX1 hown hK.1 hP hD hS 0 rfl rfl 0 (by decide) (hts _ q_28) (fun _ h9 => h9) rfl hin rfl (by decide +kernel) rfl rfl (Nat.le_of_ble_eq_true rfl) dX1_init_10 (fun H locs hP hD hS => ?_)
  have hP : va_P D vwCl [(sp, .inr (1, [.ref a_1, .null, .int (iI 0)])), (a_1, .inl (cI, 16807, .inl (aI (fun _ => 0))))] H := hP
  have hD : va_D A [(sp, .inr (1, [.ref a_1, .null, .int (iI 0)])), (a_1, .inl (cI, 16807, .inl (aI (fun _ => 0))))] := hD
  refine lv_aload_n hx hb dX1_init_13 rfl (lv_at hl 0 rfl) ?_
  refine zv_sipush hx hb dX1_init_14 (by decide) ?_
  refine zm_newa (z := 9163) (n := 9163) hx hb (hts _ q_38) hK hP hD hS hA rfl (Nat.le_of_ble_eq_true rfl) (Nat.le_of_ble_eq_true rfl) (Nat.le_of_ble_eq_true rfl) dX1_init_17 (fun a_2 H hP hD hS => ?_)
  have hP : va_P D vwCl [(sp, .inr (1, [.ref a_1, .null, .int (iI 0)])), (a_1, .inl (cI, 16807, .inl (aI (fun _ => 0)))), (a_2, .inl (cI, 9163, .inl (aI (fun _ => 0))))] H := hP
  have hD : va_D A [(sp, .inr (1, [.ref a_1, .null, .int (iI 0)])), (a_1, .inl (cI, 16807, .inl (aI (fun _ => 0)))), (a_2, .inl (cI, 9163, .inl (aI (fun _ => 0))))] := hD
  refine va_putF (D := D) (ci := 1) (v := .ref a_2) (ty := (.array .int)) (C := RX1) (T := TX1) (N := 3) hx hb hts uX1 tyX1 tyX1_ok nmX1 hown hK.1 hP hD hS 0 rfl rfl 1 (by decide) (hts _ q_29) (fun _ h9 => h9) rfl hin rfl (by decide +kernel) rfl rfl (Nat.le_of_ble_eq_true rfl) dX1_init_19 (fun H locs hP hD hS => ?_)
  have hP : va_P D vwCl [(sp, .inr (1, [.ref a_1, .ref a_2, .int (iI 0)])), (a_1, .inl (cI, 16807, .inl (aI (fun _ => 0)))), (a_2, .inl (cI, 9163, .inl (aI (fun _ => 0))))] H := hP
  have hD : va_D A [(sp, .inr (1, [.ref a_1, .ref a_2, .int (iI 0)])), (a_1, .inl (cI, 16807, .inl (aI (fun _ => 0)))), (a_2, .inl (cI, 9163, .inl (aI (fun _ => 0))))] := hD
  exact MM_vret (a_1, a_2) hx hb hr hlk hP hD hS (Nat.le_of_ble_eq_true rfl) (Nat.le_of_ble_eq_true rfl) dX1_init_22 (trivial)
end
section
/-! the search for a square at its end; the lengths from the base -/
theorem BI_F {nb : Int → Int → Int} {s : Int} {G : Int → Prop} (hG : ∀ f d : Int, 0 ≤ d → d ≤ 3 → G f → nb f d ≠ -1 → G (nb f d)) (q : Int) : ∀ (n i : Nat) (S : BS), BI nb s G S i 0 → ∃ k, BI nb s G (bsF nb q n i S).2 k 0 ∧ ((bsF nb q n i S).1 = -1 ∨ ((bsF nb q n i S).1 ∈ (bsF nb q n i S).2.1 ∧ (bsF nb q n i S).1 / 343 = q)) := by
  intro n
  induction n with
  | zero => intro i S h; exact ⟨i, h, Or.inl rfl⟩
  | succ n ih =>
    intro i S h
    by_cases hl : i < S.1.length
    · by_cases hq : bsAt S i / 343 = q
      · rw [show bsF nb q (n + 1) i S = (bsAt S i, S) by show (if i < S.1.length then (if bsAt S i / 343 = q then (bsAt S i, S) else bsF nb q n (i + 1) (bsK nb S (bsAt S i) 4)) else (-1, S)) = _; rw [if_pos hl, if_pos hq]]
        exact ⟨i, h, Or.inr ⟨List.mem_of_getElem? (bsAt_some hl), hq⟩⟩
      · rw [show bsF nb q (n + 1) i S = bsF nb q n (i + 1) (bsK nb S (bsAt S i) 4) by show (if i < S.1.length then (if bsAt S i / 343 = q then (bsAt S i, S) else bsF nb q n (i + 1) (bsK nb S (bsAt S i) 4)) else (-1, S)) = _; rw [if_pos hl, if_neg hq]]
        exact ih (i + 1) _ (BI_i (BI_K h (bsAt_some hl) (fun d h0 h3 => hG _ d h0 h3) 4 (Nat.le_refl _)) (by decide))
    · rw [show bsF nb q (n + 1) i S = (-1, S) by show (if i < S.1.length then (if bsAt S i / 343 = q then (bsAt S i, S) else bsF nb q n (i + 1) (bsK nb S (bsAt S i) 4)) else (-1, S)) = _; rw [if_neg hl]]
      exact ⟨i, h, Or.inl rfl⟩
/-- the length from the base, -1 for none -/
def LZ (C R : Int) (N : Int → Int) (b : Int) : Int → Int := (BF (aftZ C R N) (b * 343)).2.1
theorem LZ_BI {C R np : Int} {N : Int → Int} {gn : Nat → Int} (hF : FlOK C R np N gn) {b : Int} (hb : GdZ C R N (b * 343)) : ∃ k, BI (aftZ C R N) (b * 343) (GdZ C R N) (BF (aftZ C R N) (b * 343)) k 0 ∧ (BF (aftZ C R N) (b * 343)).1.length ≤ k :=
  BF_end (fun f d h0 h3 hf hn => (aftZ_back hF hf h0 h3 hn).1) hb (fun l h1 h2 => Nat.le_trans (gd_len h1 h2) (by decide))
section LZS
variable {C R np : Int} {N : Int → Int} {gn : Nat → Int} {b : Int}
theorem LZ_b (hF : FlOK C R np N gn) (hb : GdZ C R N (b * 343)) (z : Int) : -1 ≤ LZ C R N b z := by
  obtain ⟨k, h, -⟩ := LZ_BI hF hb
  rcases h.2.2.1 z with g | g
  · show -1 ≤ (BF (aftZ C R N) (b * 343)).2.1 z; omega
  · show -1 ≤ (BF (aftZ C R N) (b * 343)).2.1 z; omega
theorem LZ_gd (hF : FlOK C R np N gn) (hb : GdZ C R N (b * 343)) {z : Int} (hz : 0 ≤ LZ C R N b z) : GdZ C R N z := by
  obtain ⟨k, h, -⟩ := LZ_BI hF hb
  have hz : 0 ≤ (BF (aftZ C R N) (b * 343)).2.1 z := hz
  rcases h.2.2.1 z with g | g
  · omega
  · exact h.2.2.2.1 z g.2
theorem LZ_0 (hF : FlOK C R np N gn) (hb : GdZ C R N (b * 343)) : LZ C R N b (b * 343) = 0 := by
  obtain ⟨k, h, -⟩ := LZ_BI hF hb
  exact h.2.2.2.2.1.1
theorem LZ_n1 (hF : FlOK C R np N gn) (hb : GdZ C R N (b * 343)) : LZ C R N b (-1) = -1 := by
  have h1 := LZ_b hF hb (-1)
  by_cases h : 0 ≤ LZ C R N b (-1)
  · have := (LZ_gd hF hb h).1; omega
  · omega
theorem LZ_to (hF : FlOK C R np N gn) (hb : GdZ C R N (b * 343)) {z d : Int} (hz : 0 ≤ LZ C R N b z) (h0 : 0 ≤ d) (h3 : d ≤ 3) (hn : aftZ C R N z d ≠ -1) : 0 ≤ LZ C R N b (aftZ C R N z d) ∧ LZ C R N b (aftZ C R N z d) ≤ LZ C R N b z + 1 := by
  obtain ⟨k, h, hk⟩ := LZ_BI hF hb
  have hz : 0 ≤ (BF (aftZ C R N) (b * 343)).2.1 z := hz
  have hm : z ∈ (BF (aftZ C R N) (b * 343)).1 := by
    rcases h.2.2.1 z with g | g
    · omega
    · exact g.2
  obtain ⟨g1, g2⟩ := BF_close h hk hm h0 h3 hn
  refine ⟨?_, g2⟩
  rcases h.2.2.1 (aftZ C R N z d) with g | g
  · exact absurd g1 g.2
  · exact g.1
theorem LZ_pa (hF : FlOK C R np N gn) (hb : GdZ C R N (b * 343)) {z : Int} (hz : 0 ≤ LZ C R N b z) (hzb : z ≠ b * 343) : ∃ y e, 0 ≤ e ∧ e ≤ 3 ∧ aftZ C R N y e = z ∧ 0 ≤ LZ C R N b y ∧ LZ C R N b z = LZ C R N b y + 1 := by
  obtain ⟨k, h, hk⟩ := LZ_BI hF hb
  have hz : 0 ≤ (BF (aftZ C R N) (b * 343)).2.1 z := hz
  have hm : z ∈ (BF (aftZ C R N) (b * 343)).1 := by
    rcases h.2.2.1 z with g | g
    · omega
    · exact g.2
  obtain ⟨g1, g2, e, e0, e3, he⟩ := h.2.2.2.2.2.1 z hm hzb
  refine ⟨_, e, e0, e3, he, ?_, g2⟩
  rcases h.2.2.1 ((BF (aftZ C R N) (b * 343)).2.2 z) with g | g
  · exact absurd g1 g.2
  · exact g.1
theorem LZ_dn (hF : FlOK C R np N gn) (hb : GdZ C R N (b * 343)) {z : Int} (hz : 0 < LZ C R N b z) : ∃ d, 0 ≤ d ∧ d ≤ 3 ∧ aftZ C R N z d ≠ -1 ∧ LZ C R N b (aftZ C R N z d) = LZ C R N b z - 1 := by
  have h0 := LZ_0 hF hb
  obtain ⟨y, e, e0, e3, he, hy, hyz⟩ := LZ_pa hF hb (z := z) (by omega) (fun h => by rw [h] at hz; omega)
  have hyg := LZ_gd hF hb hy
  have hz0 := (LZ_gd hF hb (z := z) (by omega)).1
  obtain ⟨k1, k2⟩ := aftZ_back hF hyg e0 e3 (by rw [he]; omega)
  rw [he] at k2
  have hr : 0 ≤ rvZ e ∧ rvZ e ≤ 3 := by unfold rvZ; (repeat' split) <;> omega
  have hy0 := hyg.1
  exact ⟨rvZ e, hr.1, hr.2, by rw [k2]; omega, by rw [k2]; omega⟩
theorem cd_ok (hF : FlOK C R np N gn) (hb : GdZ C R N (b * 343)) {z : Int} (hz : 0 < LZ C R N b z) : 0 ≤ cdZ C R N (LZ C R N b) z ∧ cdZ C R N (LZ C R N b) z ≤ 3 ∧ LZ C R N b (aftZ C R N z (cdZ C R N (LZ C R N b) z)) = LZ C R N b z - 1 := by
  obtain ⟨d, d0, d3, hn, hd⟩ := LZ_dn hF hb hz
  unfold cdZ
  rw [if_neg (by omega)]
  by_cases h0 : LZ C R N b (aftZ C R N z 0) = LZ C R N b z - 1
  · rw [if_pos h0]; exact ⟨by omega, by omega, h0⟩
  · rw [if_neg h0]
    by_cases h1 : LZ C R N b (aftZ C R N z 1) = LZ C R N b z - 1
    · rw [if_pos h1]; exact ⟨by omega, by omega, h1⟩
    · rw [if_neg h1]
      by_cases h2 : LZ C R N b (aftZ C R N z 2) = LZ C R N b z - 1
      · rw [if_pos h2]; exact ⟨by omega, by omega, h2⟩
      · rw [if_neg h2]
        by_cases h3 : LZ C R N b (aftZ C R N z 3) = LZ C R N b z - 1
        · rw [if_pos h3]; exact ⟨by omega, by omega, h3⟩
        · exfalso
          rcases (show d = 0 ∨ d = 1 ∨ d = 2 ∨ d = 3 by omega) with rfl | rfl | rfl | rfl
          · exact h0 hd
          · exact h1 hd
          · exact h2 hd
          · exact h3 hd
theorem al_L (hF : FlOK C R np N gn) (hb : GdZ C R N (b * 343)) {z : Int} (hz : 0 ≤ LZ C R N b z) : ∀ j : Nat, (j : Int) ≤ LZ C R N b z → LZ C R N b (alZ C R N (LZ C R N b) z j) = LZ C R N b z - j := by
  intro j
  induction j with
  | zero => intro _; show LZ C R N b z = LZ C R N b z - 0; omega
  | succ j ih =>
    intro hj
    have h1 := ih (by omega)
    have h2 := (cd_ok hF hb (z := alZ C R N (LZ C R N b) z j) (by omega)).2.2
    show LZ C R N b (aftZ C R N (alZ C R N (LZ C R N b) z j) (cdZ C R N (LZ C R N b) (alZ C R N (LZ C R N b) z j))) = _
    omega
theorem al_gd (hF : FlOK C R np N gn) (hb : GdZ C R N (b * 343)) {z : Int} (hz : 0 ≤ LZ C R N b z) {j : Nat} (hj : (j : Int) ≤ LZ C R N b z) : GdZ C R N (alZ C R N (LZ C R N b) z j) := by
  have h1 := al_L hF hb hz j hj
  exact LZ_gd hF hb (by omega)
theorem al_ok (hF : FlOK C R np N gn) (hb : GdZ C R N (b * 343)) {z k : Int} (hz : 0 ≤ LZ C R N b z) (hk : k ≤ LZ C R N b z) : AlOK C R N (LZ C R N b) z k := by
  intro j hj
  have h1 := al_L hF hb hz j (by omega)
  have h2 := cd_ok hF hb (z := alZ C R N (LZ C R N b) z j) (by omega)
  exact ⟨(al_gd hF hb hz (j := j) (by omega)).pl, h2.1, h2.2.1⟩
theorem wkZ_snoc : ∀ (k : Nat) (x y e : Int), wkZ C R N k x y → 0 ≤ e → e ≤ 3 → aftZ C R N y e ≠ -1 → wkZ C R N (k + 1) x (aftZ C R N y e) := by
  intro k
  induction k with
  | zero => intro x y e h h0 h3 hn; have h : x = y := h; subst h; exact ⟨e, h0, h3, hn, rfl⟩
  | succ k ih =>
    intro x y e h h0 h3 hn
    obtain ⟨d, d0, d3, dn, h⟩ := h
    exact ⟨d, d0, d3, dn, ih _ y e h h0 h3 hn⟩
theorem LZ_wk (hF : FlOK C R np N gn) (hb : GdZ C R N (b * 343)) : ∀ (k : Nat) (x z : Int), 0 ≤ LZ C R N b x → wkZ C R N k x z → 0 ≤ LZ C R N b z ∧ LZ C R N b z ≤ LZ C R N b x + k := by
  intro k
  induction k with
  | zero => intro x z hx h; have h : x = z := h; subst h; omega
  | succ k ih =>
    intro x z hx h
    obtain ⟨d, d0, d3, dn, h⟩ := h
    have h1 := LZ_to hF hb hx d0 d3 dn
    have h2 := ih _ z h1.1 h
    omega
theorem LZ_ex (hF : FlOK C R np N gn) (hb : GdZ C R N (b * 343)) : ∀ (n : Nat) (z : Int), LZ C R N b z = (n : Int) → wkZ C R N n (b * 343) z := by
  intro n
  induction n with
  | zero =>
    intro z hz
    by_cases h : z = b * 343
    · exact h.symm
    · obtain ⟨y, e, e0, e3, he, hy, hyz⟩ := LZ_pa hF hb (z := z) (by omega) h
      omega
  | succ n ih =>
    intro z hz
    have h0 := LZ_0 hF hb
    obtain ⟨y, e, e0, e3, he, hy, hyz⟩ := LZ_pa hF hb (z := z) (by omega) (fun h => by rw [h] at hz; omega)
    have h1 := ih y (by omega)
    have hz0 := (LZ_gd hF hb (z := z) (by omega)).1
    have h2 := wkZ_snoc n _ y e h1 e0 e3 (by rw [he]; omega)
    rw [he] at h2
    exact h2
/-- what trying finds -/
theorem FW_L (hF : FlOK C R np N gn) (hb : GdZ C R N (b * 343)) {z mo r : Int} (hz : 0 ≤ LZ C R N b z) (hm : 0 ≤ mo) (h : FW C R N (b * 343) z 0 mo r) : (LZ C R N b z ≤ mo → r = LZ C R N b z) ∧ (¬ LZ C R N b z ≤ mo → mo < r) := by
  obtain ⟨h1, h2, h3, -⟩ := h
  have h0 := LZ_0 hF hb
  have hb0 := hb.1
  have h4 := h2 (by omega) (LZ C R N b z).toNat (LZ_ex hF hb _ z (by omega))
  have h5 : r = mo + 1 ∨ LZ C R N b z ≤ r := by
    rcases h3 with h3 | ⟨-, k, hk, h3⟩
    · exact Or.inl h3
    · have := (LZ_wk hF hb k (b * 343) z (by omega) hk).2
      exact Or.inr (by omega)
  constructor
  · intro h; omega
  · intro h; omega
end LZS
end
section
/-! the crawler's search in the reference -/
theorem ast_yes {C R : Int} {N L : Int → Int} {lim z d : Int} (hm : aftZ C R N z d = -1 ∨ (0 ≤ aftZ C R N z d ∧ aftZ C R N z d < 16807)) (h : tM (aftZ C R N z d) ≠ -1 ∧ L (tauZ (tM (aftZ C R N z d))) ≠ -1 ∧ L (tauZ (tM (aftZ C R N z d))) ≤ lim) : astZ C R N L lim z d = aftZ C R N z d ∧ aftZ C R N z d ≠ -1 := by
  rcases tM_b hm with ⟨h1, -⟩ | ⟨h0, h1, h2, h3, h4⟩
  · exact absurd h1 h.1
  · rw [h4, tauZ_tauZ h2 h3] at h
    unfold astZ
    rw [if_pos ⟨h.2.1, h.2.2⟩]
    exact ⟨rfl, by omega⟩
theorem ast_no {C R : Int} {N L : Int → Int} {lim z d : Int} (hL : L (-1) = -1) (hm : aftZ C R N z d = -1 ∨ (0 ≤ aftZ C R N z d ∧ aftZ C R N z d < 16807)) (h : ¬ (tM (aftZ C R N z d) ≠ -1 ∧ L (tauZ (tM (aftZ C R N z d))) ≠ -1 ∧ L (tauZ (tM (aftZ C R N z d))) ≤ lim)) : astZ C R N L lim z d = -1 := by
  unfold astZ
  rcases tM_b hm with ⟨-, h1⟩ | ⟨h0, h1, h2, h3, h4⟩
  · rw [h1, hL, if_neg (fun k => k.1 rfl)]
  · rw [h4, tauZ_tauZ h2 h3] at h
    rw [if_neg (fun k => h ⟨by omega, k.1, k.2⟩)]
theorem MBOK.at {S : BS} {gb gq : Nat → Int} (h : MBOK S gb gq) {y : Int} (h0 : 0 ≤ y) (h1 : y < 16807) (hp : S.2.1 y ≠ -1 → 0 ≤ S.2.2 y ∧ S.2.2 y < 16807) : ∃ v : Int, gb (tauZ y).toNat = v ∧ ((S.2.1 y = -1 ∧ v = -1) ∨ (S.2.1 y ≠ -1 ∧ 0 ≤ v ∧ v < 16807 ∧ v = tauZ (S.2.2 y))) := by
  have h2 := h.1 y h0 h1
  by_cases hd : S.2.1 y = -1
  · rw [if_pos hd] at h2
    exact ⟨-1, h2, Or.inl ⟨hd, rfl⟩⟩
  · rw [if_neg hd] at h2
    obtain ⟨k1, k2⟩ := hp hd
    have k3 := tauZ_of k1 k2
    exact ⟨_, h2, Or.inr ⟨hd, k3.1, k3.2.1, rfl⟩⟩
/-- where a place of a search was come to from -/
theorem BI_pa {nb : Int → Int → Int} {s : Int} {C R : Int} {N : Int → Int} {S : BS} {i : Nat} {d : Int} (h : BI nb s (GdZ C R N) S i d) (y : Int) (hy : S.2.1 y ≠ -1) : 0 ≤ S.2.2 y ∧ S.2.2 y < 16807 := by
  obtain ⟨h1, h2, h3, h4, h5, h6, -⟩ := h
  have hm : y ∈ S.1 := by
    rcases h3 y with g | g
    · exact absurd g.1 hy
    · exact g.2
  by_cases hys : y = s
  · rw [hys, h5.2]
    have := h4 s (hys ▸ hm)
    exact ⟨this.1, this.2.1⟩
  · have := h4 _ (h6 y hm hys).1
    exact ⟨this.1, this.2.1⟩
theorem sq_tau {z q : Int} (h0 : 0 ≤ z) (h1 : z < 16807) (hq0 : 0 ≤ q) (hq1 : q < 49) : tauZ z / 343 = q ↔ z / 343 = q % 7 * 7 + q / 7 := by
  obtain ⟨-, -, -, -, -, e⟩ := tauZ_of h0 h1
  rw [e]
  omega
/-- the crawler's search at its end -/
theorem go_ok {C R np : Int} {N : Int → Int} {gn : Nat → Int} {b lim P q : Int} (hF : FlOK C R np N gn) (hb : GdZ C R N (b * 343)) (hP : 0 ≤ LZ C R N b P) (hPl : LZ C R N b P ≤ lim) :
    ∃ k, BI (astZ C R N (LZ C R N b) lim) P (fun z => GdZ C R N z ∧ 0 ≤ LZ C R N b z ∧ LZ C R N b z ≤ lim) (bsF (astZ C R N (LZ C R N b) lim) q 16807 0 (bs0 P)).2 k 0 ∧ ((bsF (astZ C R N (LZ C R N b) lim) q 16807 0 (bs0 P)).1 = -1 ∨ ((bsF (astZ C R N (LZ C R N b) lim) q 16807 0 (bs0 P)).1 ∈ (bsF (astZ C R N (LZ C R N b) lim) q 16807 0 (bs0 P)).2.1 ∧ (bsF (astZ C R N (LZ C R N b) lim) q 16807 0 (bs0 P)).1 / 343 = q)) := by
  refine BI_F (fun f d h0 h3 hf hn => ?_) q 16807 0 _ (BI_0 ⟨LZ_gd hF hb hP, hP, hPl⟩)
  have h1 := astZ_gd hF hf.1 h0 h3 hn
  have h2 := LZ_b hF hb (astZ C R N (LZ C R N b) lim f d)
  unfold astZ at hn h1 h2 ⊢
  split at hn
  · rename_i hc
    rw [if_pos hc] at h1 h2 ⊢
    exact ⟨h1, by omega, hc.2⟩
  · exact absurd rfl hn
end
section
/-! what calls change: a pillar is set; the cable; letters of a word -/
def NZ (N : Int → Int) (q k : Int) : Int → Int := fun z => if z = q then k else N z
theorem FlOK_set {C R np : Int} {N : Int → Int} {gn : Nat → Int} (h : FlOK C R np N gn) {q : Int} (hn : np < 3) (h0 : 0 ≤ q) (h1 : q < 49) : FlOK C R (np + 1) (NZ N q np) (updZ gn q.toNat np) := by
  obtain ⟨a1, a2, a3, a4, a5, a6, a7, a8⟩ := h
  refine ⟨a1, a2, a3, a4, by omega, by omega, fun k hk => ?_, fun z => ?_⟩
  · unfold NZ
    by_cases hkq : (k : Int) = q
    · rw [if_pos hkq, show k = q.toNat by omega, updZ_s]
    · rw [if_neg hkq, updZ_n (by omega)]
      exact a7 k hk
  · unfold NZ
    by_cases hz : z = q
    · rw [if_pos hz]; exact Or.inr (by omega)
    · rw [if_neg hz]
      have := a8 z
      omega
theorem MdOK_set {C R np : Int} {N : Int → Int} {gc gr : Nat → Int} (h : MdOK C R np N gc gr) {a b : Int} (hn : np < 3) (ha0 : 0 ≤ a) (ha : a < C) (hb0 : 0 ≤ b) (hb : b < R) (hN : N (a * 7 + b) = -1) : MdOK C R (np + 1) (NZ N (a * 7 + b) np) (updZ gc np.toNat a) (updZ gr np.toNat b) := by
  obtain ⟨a1, a2, a3, a4, a5, a6, a7, a8⟩ := h
  refine ⟨a1, a2, a3, a4, by omega, by omega, fun k hk => ?_, fun z => ?_⟩
  · by_cases hkn : (k : Int) = np
    · rw [show k = np.toNat by omega, updZ_s, updZ_s]
      unfold NZ
      rw [if_pos rfl]
      omega
    · rw [updZ_n (by omega), updZ_n (by omega)]
      obtain ⟨k1, k2, k3, k4, k5⟩ := a7 k (by omega)
      refine ⟨k1, k2, k3, k4, ?_⟩
      unfold NZ
      rw [if_neg]
      · exact k5
      · intro e
        rw [e] at k5
        omega
  · unfold NZ
    by_cases hz : z = a * 7 + b
    · rw [if_pos hz, updZ_s, updZ_s]; exact Or.inr (by omega)
    · rw [if_neg hz]
      rcases a8 z with g | ⟨g1, g2, g3⟩
      · exact Or.inl g
      · refine Or.inr ⟨g1, by omega, ?_⟩
        rw [updZ_n (by omega), updZ_n (by omega)]
        exact g3
theorem GdZ_set {C R : Int} {N : Int → Int} {z q k : Int} (h : GdZ C R N z) (hq : z / 343 ≠ q) : GdZ C R (NZ N q k) z := by
  obtain ⟨h1, h2, h3, h4, h5, h6⟩ := h
  refine ⟨h1, h2, h3, h4, ?_, h6⟩
  unfold NZ
  rw [if_neg hq]
  exact h5
theorem GdZ_mk {C R : Int} {N : Int → Int} (hC : C ≤ 7) (hR : R ≤ 7) {a b : Int} (ha0 : 0 ≤ a) (ha : a < C) (hb0 : 0 ≤ b) (hb : b < R) (hN : N (a * 7 + b) = -1) : GdZ C R N ((a * 7 + b) * 343) := by
  refine ⟨by omega, by omega, by omega, by omega, ?_, ?_⟩
  · rw [show (a * 7 + b) * 343 / 343 = a * 7 + b by omega]; exact hN
  · rw [show (a * 7 + b) * 343 % 343 = 0 by omega]; exact Or.inl rfl
theorem MdOK_0 {C R : Int} (hC : 3 ≤ C ∧ C ≤ 7) (hR : 3 ≤ R ∧ R ≤ 7) {gc gr : Nat → Int} : MdOK C R 0 (fun _ => -1) gc gr := ⟨hC.1, hC.2, hR.1, hR.2, by omega, by omega, fun k hk => absurd hk (by omega), fun _ => Or.inl rfl⟩
theorem FlOK_0 {C R : Int} (hC : 3 ≤ C ∧ C ≤ 7) (hR : 3 ≤ R ∧ R ≤ 7) {gn : Nat → Int} (h : ∀ k : Nat, k < 49 → gn k = -1) : FlOK C R 0 (fun _ => -1) gn := ⟨hC.1, hC.2, hR.1, hR.2, by omega, by omega, fun k hk => h k hk, fun _ => Or.inl rfl⟩
/-- bounded -/
def clZ (a b d : Int) : Int := if a < b then b else if d < a then d else a
theorem clZ_b {a b d : Int} (h : b ≤ d) : b ≤ clZ a b d ∧ clZ a b d ≤ d := by
  unfold clZ
  (repeat' split) <;> omega
theorem btZ {a b d : Int} (h : a ≤ d) : (if a < (if d < b then d else b) then (if d < b then d else b) else a) = clZ b a d := by
  unfold clZ
  (repeat' split) <;> omega
/-- the cable of a place can be gone -/
def CbOK (C R : Int) (N L : Int → Int) (P : Int) : Prop := 0 ≤ L P ∧ (∀ j : Nat, (j : Int) ≤ L P → L (alZ C R N L P j) = L P - j ∧ GdZ C R N (alZ C R N L P j)) ∧ AlOK C R N L P (L P)
theorem cb_ok {C R np : Int} {N : Int → Int} {gn : Nat → Int} {b P : Int} (hF : FlOK C R np N gn) (hb : GdZ C R N (b * 343)) (hP : 0 ≤ LZ C R N b P) : CbOK C R N (LZ C R N b) P :=
  ⟨hP, fun j hj => ⟨al_L hF hb hP j hj, al_gd hF hb hP hj⟩, al_ok hF hb hP (Int.le_refl _)⟩
/-- a word's number after its last n letters are taken off -/
def dvZ (w : Int) : Nat → Int
  | 0 => w
  | n + 1 => dvZ w n / 7
theorem dvZ_b {w : Int} (h0 : 0 ≤ w) (h1 : w < 343) : ∀ n : Nat, 0 ≤ dvZ w n ∧ dvZ w n < 343 := by
  intro n
  induction n with
  | zero => exact ⟨h0, h1⟩
  | succ n ih => show 0 ≤ dvZ w n / 7 ∧ dvZ w n / 7 < 343; omega
theorem lenZ_b (w : Int) : 0 ≤ lenZ w ∧ lenZ w ≤ 3 := by
  unfold lenZ
  (repeat' split) <;> omega
theorem wdN_b (L : Int → Int) (lim q : Int) : ∀ n : Nat, 0 ≤ wdN L lim q n ∧ wdN L lim q n ≤ n := by
  intro n
  induction n with
  | zero => unfold wdN; omega
  | succ n ih => unfold wdN; split <;> omega
theorem sqN_b (L : Int → Int) (lim : Int) : ∀ n : Nat, 0 ≤ sqN L lim n ∧ sqN L lim n ≤ n := by
  intro n
  induction n with
  | zero => unfold sqN; omega
  | succ n ih => unfold sqN; split <;> omega
/-- how many of the first n squares, in the reference's order -/
def sqM (L : Int → Int) (lim : Int) : Nat → Int
  | 0 => 0
  | n + 1 => sqM L lim n + if lsZ L ((n : Int) % 7 * 7 + (n : Int) / 7) ≠ -1 ∧ lsZ L ((n : Int) % 7 * 7 + (n : Int) / 7) ≤ lim then 1 else 0
theorem sqM_sqN (L : Int → Int) (lim : Int) : sqM L lim 49 = sqN L lim 49 := by
  have hf : ∃ f : Int → Int, ∀ q, (if lsZ L q ≠ -1 ∧ lsZ L q ≤ lim then (1 : Int) else 0) = f q := ⟨_, fun _ => rfl⟩
  obtain ⟨f, hf⟩ := hf
  simp only [sqM, sqN, hf]
  simp
  omega
theorem bdN_b (C R : Int) (N L : Int → Int) (z : Int) : ∀ n : Nat, 0 ≤ bdN C R N L z n ∧ bdN C R N L z n ≤ n := by
  intro n
  induction n with
  | zero => unfold bdN; omega
  | succ n ih => unfold bdN; split <;> omega
end
section
/-! an int whose integer may lie outside: seen as one that does not -/
theorem iI_wrap (x : Int) : ∃ y : Int, InR y ∧ iI y = iI x ∧ (InR x → y = x) :=
  ⟨(iI x).toInt, iI_InR _, (iI_of (iI x)).symm, fun h => iI_int h⟩
theorem zv_wrap {p : Program} {l : Launch} {e : Env} {R : Room} {s : State} {m : MethodId} {args : Array Value} {below : List Frame} {meth : Method} {c : Code} {H : Heap} {locs : List Loc} {cells slots : Nat} {Q : State → Prop} {pc : Nat} {ls : Array Slot} {rest : List Value} {x : Int}
    (k : ∀ y : Int, InR y → iI y = iI x → (InR x → y = x) → W p l e R s m args below meth c H locs cells slots Q (F0 m pc ls (.int (iI y) :: rest))) : W p l e R s m args below meth c H locs cells slots Q (F0 m pc ls (.int (iI x) :: rest)) := by
  obtain ⟨y, h1, h2, h3⟩ := iI_wrap x
  rw [← h2]
  exact k y h1 h2 h3
/-- the reference's count of bends -/
def bdM (C R : Int) (N L : Int → Int) (z : Int) : Nat → Int
  | 0 => 0
  | n + 1 => bdN C R N L z n
def laM (C R : Int) (N L : Int → Int) (z : Int) : Nat → Int
  | 0 => -1
  | n + 1 => cdZ C R N L (alZ C R N L z n)
theorem bdM_a {C R : Int} {N L : Int → Int} {z : Int} {j : Nat} (hc : ∀ i : Nat, i < j → cdZ C R N L (alZ C R N L z i) ≠ -1) (h : laM C R N L z j = -1 ∨ laM C R N L z j = cdZ C R N L (alZ C R N L z j)) : bdM C R N L z j = bdN C R N L z j := by
  cases j with
  | zero => rfl
  | succ j =>
    have h1 := hc j (by omega)
    have h2 : cdZ C R N L (alZ C R N L z (j + 1)) = cdZ C R N L (alZ C R N L z j) := by
      rcases h with h | h
      · exact absurd h h1
      · exact h.symm
    show bdN C R N L z j = bdN C R N L z j + if cdZ C R N L (alZ C R N L z (j + 1)) = cdZ C R N L (alZ C R N L z j) then 0 else 1
    rw [if_pos h2]
    omega
theorem bdM_b {C R : Int} {N L : Int → Int} {z : Int} {j : Nat} (h1 : ¬ laM C R N L z j = -1) (h2 : ¬ laM C R N L z j = cdZ C R N L (alZ C R N L z j)) : bdM C R N L z j + 1 = bdN C R N L z j := by
  cases j with
  | zero => exact absurd rfl h1
  | succ j =>
    show bdN C R N L z j + 1 = bdN C R N L z j + if cdZ C R N L (alZ C R N L z (j + 1)) = cdZ C R N L (alZ C R N L z j) then 0 else 1
    rw [if_neg (fun k => h2 k.symm)]
theorem bdM_e {C R : Int} {N L : Int → Int} {z : Int} {j : Nat} (h : (j : Int) = L z) : bdM C R N L z j = bdN C R N L z (L z - 1).toNat := by
  cases j with
  | zero => rw [← h]; rfl
  | succ j => rw [show (L z - 1).toNat = j by omega]; rfl
theorem bdM_r (C R : Int) (N L : Int → Int) (z : Int) (j : Nat) : 0 ≤ bdM C R N L z j ∧ bdM C R N L z j ≤ j ∧ -1 ≤ laM C R N L z j ∧ laM C R N L z j ≤ 3 := by
  cases j with
  | zero => exact ⟨Int.le_refl 0, by show (0 : Int) ≤ 0; omega, by show (-1 : Int) ≤ -1; omega, by show (-1 : Int) ≤ 3; omega⟩
  | succ j =>
    have h1 := bdN_b C R N L z j
    have h2 := cdZ_b C R N L (alZ C R N L z j)
    exact ⟨h1.1, by show bdN C R N L z j ≤ ((j + 1 : Nat) : Int); omega, h2⟩
theorem tM_of {z : Int} (h : 0 ≤ z) : tM z = tauZ z := by
  unfold tM
  rw [if_neg (by omega)]
theorem go_fin {x : Int} (h : (tM x = -1 ∧ x = -1) ∨ (0 ≤ tM x ∧ tM x < 16807 ∧ 0 ≤ x ∧ x < 16807 ∧ tM x = tauZ x)) (hn : ¬ tM x = -1) : 343 * (tM x / 343) + tM x % 343 = tauZ x ∧ (0 ≤ tM x % 343 ∧ tM x % 343 < 343) ∧ x ≠ -1 := by
  omega
end
section
/-! throw new E("text"): E's constructor hands the text to RuntimeException's, by a link of its own (NoSuchElementException's differs from the others') -/
section ZX
def zx_ws (own : String) (ic : Nat) (X : String) (ix : Nat) (rx : ByteArray) : List Cond :=
  Bundle.throwableAtoms ++ Bundle.throwableSAtoms ++ (Bundle.passSAtoms X "java/lang/RuntimeException" ix rx ++ Bundle.chainSAtoms "java/lang/RuntimeException" ["java/lang/Exception"]) ++
  [.methodLink own ic (Bundle.initS X), .instantiable X 6, .castable X X, .selects X Bundle.tFill0 Bundle.tFill0, .selects X Bundle.tFill Bundle.tFill,
   .lays X Bundle.tN "cause" "Ljava/lang/Throwable;", .lays X Bundle.tN "stackTrace" Bundle.steD, .lays X Bundle.tN "suppressedExceptions" Bundle.listD, .lays X Bundle.tN "detailMessage" "Ljava/lang/String;",
   .isRef (.static Bundle.tN "UNASSIGNED_STACK" Bundle.steD), .isRef (.static Bundle.tN "SUPPRESSED_SENTINEL" Bundle.listD),
   .fieldLink Bundle.tN 198 Bundle.tN "backtrace" "Ljava/lang/Object;", .lays Bundle.tN Bundle.tN "backtrace" "Ljava/lang/Object;", .lays X Bundle.tN "backtrace" "Ljava/lang/Object;"]
variable {p : Program} {l : Launch} {e : Env} {R : Room} {s : State} {m₀ : MethodId} {args : Array Value} {below : List Frame} {meth : Method} {c : Code} {W : State} {locs : List Loc} {cells slots : Nat}
set_option maxHeartbeats 1000000 in
/-- the constructor and the throw behind it: follows the library's Stand.ctorThrowS (JvmDerived/BundleOwnThrow.lean), the first pass by the link ix -/
theorem zx_ctor (X : Stand p l e R s m₀ args below meth c W locs cells slots) (hexec : p.tables.exec = Jvm.exec) (htr : e.platform.stackTraces = false) {own cls : String} {ic ix : Nat} {rx : ByteArray}
    (x0 : decode rx 0 = .ok (.aload_n 0, 1)) (x1 : decode rx 1 = .ok (.aload_n 1, 1)) (x2 : decode rx 2 = .ok (.invokespecial ix, 3)) (x5 : decode rx 5 = .ok (.return_, 1))
    (hown : s.vm.findClass own = some m₀.cls) (hcls : Bundle.fit cls = true)
    (h : ∀ a ∈ zx_ws own ic cls ix rx, a.before args s = true)
    (hlocs : ∀ x ∈ locs, ∀ cell, s.heap[x.base]? = some cell → cell.vm.isStatics = false)
    {a : Addr} {cX : ClassId} {kX : Class} (hfoundX : s.vm.findClass cls = some cX) (hkX : s.vm.classes[cX]? = some kX) (hcell : W.heap[a]? = some (freshCell cX kX)) (hnew : s.heap.size ≤ a)
    {msg : Value} (hmsg : msg.isRef = true)
    {g : JFrame} (hg : g.method = m₀) (hsize : g.locals.size = c.maxLocals) (hlocked : g.locked = none) (hentered : g.entered = []) {rest : List Value} (hstack : g.stack = msg :: .ref a :: .ref a :: rest)
    (hd6 : decode c.code g.pc = .ok (.invokespecial ic, 3)) (hd9 : decode c.code (g.pc + 3) = .ok (.athrow, 1)) (hout : ∀ x ∈ c.exceptionTable.toList, covers x (g.pc + 3) = false)
    (hRframes : 5 < R.frames) (hRlocals : 2 * g.monitorRoom + ((Value.ref a :: rest).map fun v => v.category).sum + 81 ≤ R.locals) (hlocks : meth.locks = false) :
    ∃ U : State, Steps p.tables e below (W.setTop g) U ∧ U.status = .running ∧ Ended U below (.threw a) ∧ s.WarmedH U.vm ∧ s.sameButNew ({ U with vm := s.vm } : State) locs cells slots ∧
      ∃ ce, U.heap[a]? = some ce ∧ s.vm.findClass cls = some ce.cls ∧ ce.vm = .none := by
  have howns : e.platform.frameOwnsMonitors = true := by rw [X.admits.platform]
  have hfin : e.platform.finalization = false := by rw [X.admits.platform]
  have hpl : e.platform.magicAccessors = ({} : Platform).magicAccessors := by rw [X.admits.platform]
  have hw : ∀ x, x ∈ zx_ws own ic cls ix rx → x.holds args s none s [] = true := fun x hx => h x hx
  obtain ⟨T, Z0, L, -, Y⟩ := ThrowableC.of_atoms (args := args) howns hfin hpl (fun x hx => h x (by simp [zx_ws, hx]))
  obtain ⟨Z, M, LZ, LM, hnZ⟩ := Init0T.ofS_atoms (args := args) hpl L Y (fun x hx => h x (by simp [zx_ws, hx]))
  obtain ⟨P1, L1, hP1m, hs1⟩ := PassC.ofS_atoms (args := args) (s := s) hpl (X := cls) (Y := "java/lang/RuntimeException") (Bundle.fit_spec hcls).1 (by decide) x0 x1 x2 x5 (fun x hx => h x (by simp [zx_ws, hx]))
  obtain ⟨P2, Ps, hlen, L2, hL, hP2m, hlink2, hlink⟩ := Bundle.chainS (args := args) hpl hnZ ["java/lang/Exception"] "java/lang/RuntimeException" (by decide +kernel) (by decide +kernel) (fun x hx => h x (by simp [zx_ws, hx]))
  have hsup : P1.sup = P2.m := Option.some.inj (hs1.symm.trans hP2m)
  have hfound : s.vm.findClass cls = some P1.m.cls := findClass_of_methodNamed hP1m
  cases Option.some.inj (hfoundX.symm.trans hfound)
  obtain ⟨c1, kX', hc1, hk, hord, -, -, hn6⟩ := Cond.instantiable_spec (hw (.instantiable cls 6) (by simp [zx_ws]))
  cases Option.some.inj (hc1.symm.trans hfound)
  cases Option.some.inj (hkX.symm.trans hk)
  have hsel0 : selectMethod e.platform s.vm P1.m.cls T.fill0 = .method T.fill0 := by
    obtain ⟨c2, r2, m2, q1, q2, q3, q4, -⟩ := Cond.selects_spec (hw (.selects cls Bundle.tFill0 Bundle.tFill0) (by simp [zx_ws]))
    cases Option.some.inj (q1.symm.trans hfound)
    cases Option.some.inj (q2.symm.trans (State.methodFound?_of_named Y.fill0 (by decide)))
    cases Option.some.inj (q3.symm.trans Y.fill0)
    rw [Launch.admits_selectMethod X.admits]; exact q4
  have hselF : selectMethod e.platform s.vm P1.m.cls T.fill = .method T.fill := by
    obtain ⟨c2, r2, m2, q1, q2, q3, q4, -⟩ := Cond.selects_spec (hw (.selects cls Bundle.tFill Bundle.tFill) (by simp [zx_ws]))
    cases Option.some.inj (q1.symm.trans hfound)
    cases Option.some.inj (q2.symm.trans (State.methodFound?_of_named Y.fill (by decide)))
    cases Option.some.inj (q3.symm.trans Y.fill)
    rw [Launch.admits_selectMethod X.admits]; exact q4
  obtain ⟨cellS0, hcS0, hiss⟩ := Y.statics
  obtain ⟨u0, hu0⟩ := Cond.staticRefV Y.unassigned L.unassignedStatic L.statics hcS0 hiss (hw (.isRef (.static Bundle.tN "UNASSIGNED_STACK" Bundle.steD)) (by simp [zx_ws]))
  obtain ⟨sen, hsen⟩ := Cond.staticRefV Y.sentinel L.sentinelStatic L.statics hcS0 hiss (hw (.isRef (.static Bundle.tN "SUPPRESSED_SENTINEL" Bundle.listD)) (by simp [zx_ws]))
  obtain ⟨ci198, i198, fB, hk198, hg198, ha198, hsB, -, hnB, htB, hffB⟩ := Cond.ownField (t := .object "java/lang/Object") Y.found L.cls (by decide +kernel) (hw (.fieldLink Bundle.tN 198 Bundle.tN "backtrace" "Ljava/lang/Object;") (by simp [zx_ws])) (hw (.lays Bundle.tN Bundle.tN "backtrace" "Ljava/lang/Object;") (by simp [zx_ws])) e.platform hpl
  obtain ⟨cellS, hcS', heS, -, hkeep⟩ := X.same.2.2.2.2.2 T.aS cellS0 hcS0
  have hcellS : W.heap[T.aS]? = some cellS := hcS'
  have hout' : ∀ i, (⟨T.aS, i⟩ : Loc) ∉ locs := fun i hmem => by
    have := hlocs _ hmem cellS0 hcS0
    rw [hiss] at this; cases this
  have hknownS : cellS.vm ≠ .unknown := by
    rw [heS]; intro hu
    rw [show cellS0.vm = .unknown from hu] at hiss
    cases hiss
  have hneS : T.aS ≠ a := Nat.ne_of_lt (Nat.lt_of_lt_of_le (Array.getElem?_eq_some_iff.mp hcS0).1 hnew)
  obtain ⟨iM, hffM⟩ := Y.msg
  obtain ⟨tyC, dC, hdC, hdnC⟩ := Cond.laysAt hfound hk Y.cause (hw (.lays cls Bundle.tN "cause" "Ljava/lang/Throwable;") (by simp [zx_ws]))
  obtain ⟨tyS, dS, hdS, hdnS⟩ := Cond.laysAt hfound hk Y.stack (hw (.lays cls Bundle.tN "stackTrace" Bundle.steD) (by simp [zx_ws]))
  obtain ⟨tyP, dP, hdP, hdnP⟩ := Cond.laysAt hfound hk Y.supp (hw (.lays cls Bundle.tN "suppressedExceptions" Bundle.listD) (by simp [zx_ws]))
  obtain ⟨tyM, dM, hdM, hdnM⟩ := Cond.laysAt hfound hk hffM (hw (.lays cls Bundle.tN "detailMessage" "Ljava/lang/String;") (by simp [zx_ws]))
  obtain ⟨tyB, dB, hdB, hdnB⟩ := Cond.laysAt hfound hk hffB (hw (.lays cls Bundle.tN "backtrace" "Ljava/lang/Object;") (by simp [zx_ws]))
  have bC := Cond.laysApart hdB hdC hdnB hdnC (by rw [hnB, Y.causeName]; decide)
  have bS := Cond.laysApart hdB hdS hdnB hdnS (by rw [hnB, Y.stackName]; decide)
  have bP := Cond.laysApart hdB hdP hdnB hdnP (by rw [hnB, Y.suppName]; decide)
  have hskip : SkipFacts T e.platform s (fun u => u) u0 ((preparedCellV T.toThrowableT (freshCell P1.m.cls kX) a u0 sen).withEntry W.cur) :=
    ⟨{ ci198 := ci198, i198 := i198, fBack := fB }, ⟨hk198, hg198, ha198, hsB⟩, by
      have := fresh_default (c := P1.m.cls) tyB
      rw [htB] at this
      simpa [preparedCellV, Cell.setSlot, Cell.withEntry, Array.getElem?_setIfInBounds, bC, bS, bP, bC.symm, bS.symm, bP.symm, defaultValue] using this, fun _ _ => rfl⟩
  obtain ⟨tm, methC, cdC, kC, vm₁, hnC, -, -, -, -, -, -, -, hW₁, st1⟩ := Steps.initColdS (tb := p.tables) (e := e) (below := below) (s := s) (U := W) X.here hexec X.warmed hpl hown (t := Bundle.initS cls) rfl rfl (Bundle.fit_spec hcls).2
    (hw (.methodLink own ic (Bundle.initS cls)) (by simp [zx_ws])) (h (.instanceMethod (Bundle.initS cls)) (by simp [zx_ws, Bundle.passSAtoms])) (bytes := rx) (maxL := 2) (h (.code (Bundle.initS cls) rx 2 none) (by simp [zx_ws, Bundle.passSAtoms]))
    (f := g) hg (a := a) (msg := msg) (rest := .ref a :: rest) hstack hd6
  cases Option.some.inj (hnC.symm.trans hP1m)
  have X₁ := X.noted hW₁
  have hlen2 : (P1 :: P2 :: Ps).length = 3 := by simp [hlen]
  obtain ⟨vm₂, X₂, st2⟩ := X₁.ctorMessageOffV hexec (g := { g with stack := .ref a :: rest }) hg hsize T L Z LZ M LM (P1 :: P2 :: Ps)
    (fun P hP => by
      rcases List.mem_cons.mp hP with rfl | hP
      · exact L1
      · rcases List.mem_cons.mp hP with rfl | hP
        · exact L2
        · exact hL P hP) ⟨hsup, hlink2, hlink⟩ (u0 := u0) (sen := sen) (self := a) hmsg (cell := freshCell P1.m.cls kX) (cellS := cellS)
    hcell (fun _ => by simp) (by simp) rfl rfl hsel0 hselF hcellS hneS hknownS (by rw [hkeep _ (hout' _)]; exact hu0) (by rw [hkeep _ (hout' _)]; exact hsen)
    (Takes.of_laid hk hord tyC (by rw [Y.causeType]; rfl)) (Takes.of_laid hk hord tyS (by rw [Y.stackType]; exact fits_refV_array _ u0)) (Takes.of_laid hk hord tyP (by rw [Y.suppType]; exact fits_refV_object _ sen))
    (Takes.of_laid hk hord tyM (by rw [Y.msgType]; exact fits_refV_object _ ⟨msg, hmsg⟩)) Y.objLocals hskip htr [] hd6
    (by rw [hlen2]; omega) (by rw [hlen2]; omega)
  obtain ⟨hwalk, hrun, hended, hWU, hsame⟩ := X₂.athrowLeaves hexec (g := { g with stack := .ref a :: rest, pc := g.pc + 3 }) hg hlocked hentered hout (a := a) (rest := rest) rfl hd9
  have hlt : a < ((W.setVm vm₁).setVm vm₂).heap.size := (Array.getElem?_eq_some_iff.mp hcell).1
  have hU := heapAt_setCell_self (s := (W.setVm vm₁).setVm vm₂) (plainBareV T.toThrowableT (freshCell P1.m.cls kX) a u0 sen msg) hlt
  refine ⟨_, st1 _ (fun acts => ?_), hrun, hended, hWU, hsame.weaken (fun y hy hlt' => ?_) (Nat.le_refl _) (Nat.le_refl _), _, hU, hfound, rfl⟩
  · rw [doInvoke_state]
    exact st2 _ hwalk
  · rcases List.mem_append.mp hy with h1 | h1
    · exact h1
    · exfalso
      have hb : y.base = a := by
        simp only [List.mem_cons, List.not_mem_nil, or_false] at h1
        rcases h1 with rfl | rfl | rfl | rfl | rfl <;> rfl
      rw [hb] at hlt'
      exact Nat.not_lt.mpr hnew hlt'
end ZX
def ex7 : ByteArray := ⟨#[0x2a, 0x2b, 0xb7, 0x00, 0x07, 0xb1]⟩
def ex13 : ByteArray := ⟨#[0x2a, 0x2b, 0xb7, 0x00, 0x0d, 0xb1]⟩
abbrev eIO : String := "java/lang/IndexOutOfBoundsException"
abbrev eIS : String := "java/lang/IllegalStateException"
abbrev eIA : String := "java/lang/IllegalArgumentException"
abbrev eNS : String := "java/util/NoSuchElementException"
/-! what a throw reads of the tables and the heap beside the good words -/
def xWs : List Cond := [.declares (Bundle.initS "java/lang/RuntimeException"), .declares (Bundle.initS "java/lang/Exception"), .declares (Bundle.initS Bundle.tN), .castable eIO eIO, .castable eIS eIS, .castable eIA eIA, .castable eNS eNS]
def xStr : List (Nat × String) := [(65, "no pillar can be set there now"), (74, "the square is a pillar"), (81, "a direction is 0 to 3"), (87, "the crawler cannot make this step"), (98, "there is no way to the square"), (104, "steps back are 1 to 60"), (134, "the word has not so many letters"), (140, "the steps to try are 0 to 8"), (146, "the cable has not so many squares"), (183, "there is no such square")]
def xNc : List (String × String) := [(eIS, eIO), (eNS, eIO), (eIS, eIA)]
def EX (A : Nat → Prop) (U : State) (H : Heap) : Prop := (∀ w ∈ xWs, va_Nw w U) ∧ (∀ t ∈ xStr, ∃ a, vk_R RX2 t.1 t.2 a U) ∧ (∀ t ∈ xNc, va_Nc t.1 t.2 U) ∧ vx_Zq Bundle.tN "UNASSIGNED_STACK" Bundle.steD A U H ∧ vx_Zq Bundle.tN "SUPPRESSED_SENTINEL" Bundle.listD A U H
theorem xWs_ot : ∀ w ∈ xWs, w.onTables = true ∧ w.keepsFace = true := by decide +kernel
theorem EX.warm {A : Nat → Prop} {s U : State} {H : Heap} (hW : s.WarmedH U.vm) (h : EX A s H) : EX A U H :=
  ⟨fun w hw => va_tabs (xWs_ot w hw).1 (u := s.setVm U.vm) rfl (Cond.before_shiftedFace (State.Shifted.of_warmed hW) w (xWs_ot w hw).2 (h.1 w hw)), fun t ht => by
    obtain ⟨a, ha⟩ := h.2.1 t ht
    exact ⟨a, ha.warm hW⟩, fun t ht => (h.2.2.1 t ht).moved hW.alike, h.2.2.2.1.moved hW.alike, h.2.2.2.2.moved hW.alike⟩
theorem EX.same {A : Nat → Prop} {u U : State} {H : Heap} (hv : U.vm = u.vm) (h : EX A u H) : EX A U H :=
  ⟨fun w hw => va_Nw.same (xWs_ot w hw).1 hv.symm (h.1 w hw), fun t ht => by
    obtain ⟨a, ha⟩ := h.2.1 t ht
    exact ⟨a, ha.same hv⟩, fun t ht => (h.2.2.1 t ht).moved (by rw [hv]; exact Vm.Alike.refl _), h.2.2.2.1.moved (by rw [hv]; exact Vm.Alike.refl _), h.2.2.2.2.moved (by rw [hv]; exact Vm.Alike.refl _)⟩
theorem EX.kept {A : Nat → Prop} {U : State} {H H1 : Heap} (h : EX A U H) (hq : ∀ a : Nat, a < H.size → ¬ A a → H1[a]? = H[a]?) : EX A U H1 := ⟨h.1, h.2.1, h.2.2.1, h.2.2.2.1.kept hq, h.2.2.2.2.kept hq⟩
theorem EX.narrow {A B : Nat → Prop} {U : State} {H : Heap} (h : EX A U H) (hAB : ∀ q, B q → A q) : EX B U H := ⟨h.1, h.2.1, h.2.2.1, h.2.2.2.1.narrow hAB, h.2.2.2.2.narrow hAB⟩
/-- an exception's class, thrown by the class Tetherline -/
def XT (cls : String) (ik ic ix : Nat) (rx : ByteArray) : Prop :=
  (decode rx 0 = .ok (.aload_n 0, 1) ∧ decode rx 1 = .ok (.aload_n 1, 1) ∧ decode rx 2 = .ok (.invokespecial ix, 3) ∧ decode rx 5 = .ok (.return_, 1)) ∧ Bundle.fit cls = true ∧ Cond.classLink RX2 ik cls ∈ GW ∧ Cond.initialized cls ∈ GW ∧ ∀ w ∈ (zx_ws RX2 ic cls ix rx).filter vx_no, w ∈ GW ∨ w ∈ xWs
theorem xt_m {L : List Cond} (pl : List Nat) (h : L = pl.filterMap (fun i => lw_tbl[i]?)) (h2 : ∀ w ∈ L.filter (fun w => !goodWord w), w ∈ xWs) : ∀ w ∈ L, w ∈ GW ∨ w ∈ xWs := by
  intro w hw
  cases g : goodWord w
  · exact Or.inr (h2 w (List.mem_filter.mpr ⟨hw, by rw [g]; rfl⟩))
  · left
    rw [h] at hw
    obtain ⟨i, -, hi⟩ := List.mem_filterMap.mp hw
    exact List.mem_filter.mpr ⟨List.mem_of_getElem? hi, g⟩
theorem xt_g {w : Cond} (i : Nat) (h : lw_tbl[i]? = some w) (g : goodWord w = true) : w ∈ GW := List.mem_filter.mpr ⟨List.mem_of_getElem? h, g⟩
theorem xt_IO : XT eIO 132 136 7 ex7 := ⟨⟨by decide +kernel, by decide +kernel, by decide +kernel, by decide +kernel⟩, by decide +kernel, xt_g 330 (by decide +kernel) (by decide +kernel), xt_g 25 (by decide +kernel) (by decide +kernel),
  xt_m [20, 232, 241, 246, 249, 251, 233, 234, 33, 34, 235, 240, 247, 267, 222, 268, 224, 269, 226, 236, 238, 228, 263, 264, 266, 228, 341, 342, 343, 257, 214, 257, 258, 259, 260, 216, 260, 261, 262, 263, 218, 340, 331, 332, 333, 244, 334, 335, 336, 337, 265, 230, 338] (by decide +kernel) (by decide +kernel)⟩
theorem xt_IS : XT eIS 63 67 7 ex7 := ⟨⟨by decide +kernel, by decide +kernel, by decide +kernel, by decide +kernel⟩, by decide +kernel, xt_g 288 (by decide +kernel) (by decide +kernel), xt_g 24 (by decide +kernel) (by decide +kernel),
  xt_m [20, 232, 241, 246, 249, 251, 233, 234, 33, 34, 235, 240, 247, 267, 222, 268, 224, 269, 226, 236, 238, 228, 263, 264, 266, 228, 299, 300, 301, 257, 214, 257, 258, 259, 260, 216, 260, 261, 262, 263, 218, 298, 289, 290, 291, 243, 292, 293, 294, 295, 265, 230, 296] (by decide +kernel) (by decide +kernel)⟩
theorem xt_IA : XT eIA 79 83 7 ex7 := ⟨⟨by decide +kernel, by decide +kernel, by decide +kernel, by decide +kernel⟩, by decide +kernel, xt_g 210 (by decide +kernel) (by decide +kernel), xt_g 23 (by decide +kernel) (by decide +kernel),
  xt_m [20, 232, 241, 246, 249, 251, 233, 234, 33, 34, 235, 240, 247, 267, 222, 268, 224, 269, 226, 236, 238, 228, 263, 264, 266, 228, 254, 255, 256, 257, 214, 257, 258, 259, 260, 216, 260, 261, 262, 263, 218, 253, 211, 212, 219, 220, 221, 223, 225, 227, 265, 230, 229] (by decide +kernel) (by decide +kernel)⟩
theorem xt_NS : XT eNS 96 100 13 ex13 := ⟨⟨by decide +kernel, by decide +kernel, by decide +kernel, by decide +kernel⟩, by decide +kernel, xt_g 374 (by decide +kernel) (by decide +kernel), xt_g 26 (by decide +kernel) (by decide +kernel),
  xt_m [20, 232, 241, 246, 249, 251, 233, 234, 33, 34, 235, 240, 247, 267, 222, 268, 224, 269, 226, 236, 238, 228, 263, 264, 266, 228, 385, 386, 387, 257, 214, 257, 258, 259, 260, 216, 260, 261, 262, 263, 218, 384, 375, 376, 377, 245, 378, 379, 380, 381, 265, 230, 382] (by decide +kernel) (by decide +kernel)⟩
/-! methods that may throw: what changed then lies in the same world's form -/
def XQ (D : va_G) (A : Nat → Prop) {S : Type} (Wf : S → va_W) (pX : String → S → Prop) : String → State → State → Prop := vx_X (fun _ : S => True) (fun E u t => pX E u ∧ va_P D vwCl (Wf u) t.heap ∧ va_D A (Wf u)) A
def VPre (D : va_G) (cI cJ : ClassId) (ws : va_W) (sz : Nat) : State → Prop := fun U => MPre D cI cJ ws sz U ∧ EX (va_A ws sz) U U.heap
def VMi (l : Launch) (y : MethodName) (cd : Cond) (k mc ms : Nat) (As : List Value) (D : va_G) (cI cJ : ClassId) (ws : va_W) (sz : Nat) {S : Type} (post : Int → S → Prop) (Wf : S → va_W) (pX : String → S → Prop) : Prop :=
  vx_Met l y (cd :: GW) (rmM k mc ms) (va_Pc As (VPre D cI cJ ws sz)) (QMi D (va_A ws sz) post Wf) (XQ D (va_A ws sz) Wf pX) mc ms (va_A ws sz)
def VMv (l : Launch) (y : MethodName) (cd : Cond) (k mc ms : Nat) (As : List Value) (D : va_G) (cI cJ : ClassId) (ws : va_W) (sz : Nat) {S : Type} (post : S → Prop) (Wf : S → va_W) (pX : String → S → Prop) : Prop :=
  vx_Met l y (cd :: GW) (rmM k mc ms) (va_Pc As (VPre D cI cJ ws sz)) (QMv D (va_A ws sz) post Wf) (XQ D (va_A ws sz) Wf pX) mc ms (va_A ws sz)
theorem VPre_blind {As : List Value} {D : va_G} {cI cJ : ClassId} {ws : va_W} {sz : Nat} : FrameBlind (va_Pc As (VPre D cI cJ ws sz)) := fun a U g mk q => ⟨q.1, ⟨q.2.1.1, q.2.1.2.1, q.2.1.2.2.1.calling, q.2.1.2.2.2⟩, (EX.same (u := U) (U := U.calling g mk a) (H := U.heap) rfl q.2.2 : EX (va_A ws sz) (U.calling g mk a) U.heap)⟩
/-- a body without handlers -/
theorem VM_of {l : Launch} {y : MethodName} {k mc ms : Nat} {As : List Value} {D : va_G} {cI cJ : ClassId} {ws : va_W} {sz : Nat} {Qc : (Nat → Prop) → Array Value → State → Outcome → State → Prop} {XC : (Nat → Prop) → String → State → State → Prop} {cc : ByteArray} {maxL : Nat} {ret : Option FieldType} {own : String}
    (hy : plainName y.cls = true) (ho : y.cls = own) (hn : (lg_sl As).length ≤ maxL)
    (body : ∀ (p : Program) (e : Env) (s : State) (m : MethodId) (below : List Frame) (meth : Method) (c : Code) (ls : Array Slot) (A : Nat → Prop), p.tables.exec = Jvm.exec → c.code = cc → meth.sig.returnType = ret → (∀ w ∈ GW, w.before As.toArray s = true) → s.vm.findClass own = some m.cls → meth.locks = false → c.maxLocals = maxL → meth.name = y.name → KK D cI cJ s → va_P D vwCl ws s.heap → va_D A ws → (∀ q : Nat, s.heap.size ≤ q → A q) → va_S A s.heap s.heap [] → lv_has ls maxL (lv_args 0 As) →
      EX A s s.heap → (∀ x ∈ c.exceptionTable.toList, False) →
      W p l e (rmM k mc ms) s m As.toArray below meth c s.heap [] 0 0 (vx_MQ below (Qc A) (XC A) As.toArray s mc ms A) (F0 m 0 ls [])) : vx_Met l y (.code y cc maxL ret :: GW) (rmM k mc ms) (va_Pc As (VPre D cI cJ ws sz)) (Qc (va_A ws sz)) (XC (va_A ws sz)) mc ms (va_A ws sz) := by
  refine vx_ofW (cc := cc) (maxL := maxL) (ret := ret) hy rfl ?_
  intro p e s m args below meth c s₁ B hml hout hv
  obtain ⟨rfl, ⟨hsz, hP, hK, hD0⟩, hE⟩ := hv
  subst hsz
  have hts := atoms_spec (ws := Cond.code y cc maxL ret :: GW) B.pre
  have hl := lv_entry As (n := maxL) hn
  rw [lg_entry_eq]
  exact body p e s m below meth c _ (va_A ws s.heap.size) B.exec B.bytes B.returns (fun w h => hts w (List.mem_cons_of_mem _ h)) (by rw [← ho]; exact findClass_of_methodNamed B.named) B.notSynchronized hml (name_of_methodNamed B.named B.method).1 hK hP hD0.self (fun q h => Or.inr h) va_S.rf hl hE hout
/-- .. with handlers -/
theorem VM_ofH {l : Launch} {y : MethodName} {k mc ms : Nat} {As : List Value} {D : va_G} {cI cJ : ClassId} {ws : va_W} {sz : Nat} {Qc : (Nat → Prop) → Array Value → State → Outcome → State → Prop} {XC : (Nat → Prop) → String → State → State → Prop} {cc : ByteArray} {maxL : Nat} {ret : Option FieldType} {hh : List (Nat × Nat × Nat × Nat)} {own : String}
    (hy : plainName y.cls = true) (ho : y.cls = own) (hn : (lg_sl As).length ≤ maxL)
    (body : ∀ (p : Program) (e : Env) (s : State) (m : MethodId) (below : List Frame) (meth : Method) (c : Code) (ls : Array Slot) (A : Nat → Prop), p.tables.exec = Jvm.exec → c.code = cc → meth.sig.returnType = ret → (∀ w ∈ GW, w.before As.toArray s = true) → s.vm.findClass own = some m.cls → meth.locks = false → c.maxLocals = maxL → meth.name = y.name → KK D cI cJ s → va_P D vwCl ws s.heap → va_D A ws → (∀ q : Nat, s.heap.size ≤ q → A q) → va_S A s.heap s.heap [] → lv_has ls maxL (lv_args 0 As) →
      EX A s s.heap → c.exceptionTable.toList = tableOf hh →
      W p l e (rmM k mc ms) s m As.toArray below meth c s.heap [] 0 0 (vx_MQ below (Qc A) (XC A) As.toArray s mc ms A) (F0 m 0 ls [])) : vx_Met l y (.codeWith y cc maxL ret hh :: GW) (rmM k mc ms) (va_Pc As (VPre D cI cJ ws sz)) (Qc (va_A ws sz)) (XC (va_A ws sz)) mc ms (va_A ws sz) := by
  refine vx_ofWH (cc := cc) (maxL := maxL) (ret := ret) (hh := hh) hy rfl ?_
  intro p e s m args below meth c s₁ B hml hv
  obtain ⟨rfl, ⟨hsz, hP, hK, hD0⟩, hE⟩ := hv
  subst hsz
  have hts := atoms_spec (ws := Cond.codeWith y cc maxL ret hh :: GW) B.pre
  have htb := vx_table (x := y) B (hts _ List.mem_cons_self)
  have hl := lv_entry As (n := maxL) hn
  rw [lg_entry_eq]
  exact body p e s m below meth c _ (va_A ws s.heap.size) B.exec B.bytes B.returns (fun w h => hts w (List.mem_cons_of_mem _ h)) (by rw [← ho]; exact findClass_of_methodNamed B.named) B.notSynchronized hml (name_of_methodNamed B.named B.method).1 hK hP hD0.self (fun q h => Or.inr h) va_S.rf hl hE htb
section ZT
variable {p : Program} {l : Launch} {e : Env} {R : Room} {s : State} {m : MethodId} {args : Array Value} {below : List Frame} {meth : Method} {c : Code} {H : Heap} {locs : List Loc} {cells slots : Nat} {Q : State → Prop}
variable {cc : ByteArray} {pc : Nat} {ls : Array Slot} {rest st : List Value} {D : va_G} {cI cJ : ClassId} {A : Nat → Prop}
/-- throw new E("text") -/
theorem zx_T {S : Type} {Qc : Array Value → State → Outcome → State → Prop} {Wf : S → va_W} {pX : String → S → Prop} (hexec : p.tables.exec = Jvm.exec) (hb : c.code = cc) (hl : l.stackTraces = false) {cls text : String} {ik is ic ix mc ms : Nat} {rx : ByteArray}
    (hown : s.vm.findClass RX2 = some m.cls) (hts : ∀ w ∈ GW, w.before args s = true) (hXT : XT cls ik ic ix rx) (hst : (is, text) ∈ xStr) (hE : EX A s s.heap) (u : S) (hP : va_P D vwCl (Wf u) H) (hD : va_D A (Wf u)) (hS : va_S A s.heap H locs) (hpx : pX cls u) (hsize : c.maxLocals = ls.size)
    (d0 : decode cc pc = .ok (.new ik, 3)) (d3 : decode cc (pc + 3) = .ok (.dup, 1)) (d4 : decode cc (pc + 4) = .ok (.ldc is, 2)) (d6 : decode cc (pc + 6) = .ok (.invokespecial ic, 3)) (d9 : decode cc (pc + 9) = .ok (.athrow, 1))
    (hout : ∀ x ∈ c.exceptionTable.toList, False)
    (hRframes : 5 < R.frames) (hRlocals : (rest.map fun v => v.category).sum + 82 ≤ R.locals) (hRcells : cells + 1 ≤ R.cells) (hRslots : slots + 6 ≤ R.slots) (hlocks : meth.locks = false)
    (hc : cells + 1 ≤ mc) (hs : slots + 6 ≤ ms) :
    W p l e R s m args below meth c H locs cells slots (vx_MQ below Qc (XQ D A Wf pX) args s mc ms A) (F0 m pc ls rest) := by
  obtain ⟨⟨x0, x1, x2, x5⟩, hcls, hkG, hiG, hws⟩ := hXT
  obtain ⟨hEw, hEs, -, hU, hN⟩ := hE
  obtain ⟨sa, hstr⟩ := hEs _ hst
  have hk := hts _ hkG
  have hini := hts _ hiG
  have hgood : ∀ w, w ∈ GW ∨ w ∈ xWs → vx_ot w = true := fun w hw => by
    unfold vx_ot
    rcases hw with hw | hw
    · rw [(List.mem_filter.mp hw).2, Bool.or_true]
    · rw [(xWs_ot w hw).1, Bool.true_or]
  have hat : ∀ w, w ∈ GW ∨ w ∈ xWs → w.before args s = true := fun w hw => by
    rcases hw with hw | hw
    · exact hts w hw
    · exact va_tabs (xWs_ot w hw).1 rfl (hEw w hw)
  intro T hT X
  have htr : e.platform.stackTraces = false := (show e.platform.stackTraces = l.stackTraces by rw [X.admits.platform]).trans hl
  have Y := vx_rebase X (R' := { frames := R.frames, locals := R.locals, cells := 1, slots := 6 }) (Nat.le_refl _) (Nat.le_refl _) hRcells hRslots
  obtain ⟨s', hA⟩ : ∃ z, z = (T.setVm s.vm).setFrames (.invoking m args :: below) := ⟨_, rfl⟩
  rw [← hA] at Y
  have hvm : s'.vm = s.vm := by rw [hA]; rfl
  have hhp : s'.heap = H := by rw [hA]; exact hT
  have hW0 : s.WarmedH s'.vm := by rw [hvm]; exact State.WarmedH.refl s
  have hat' : ∀ w, w ∈ GW ∨ w ∈ xWs → w.before args s' = true := fun w hw => vx_ot_at hW0 hvm.symm (hgood w hw) (hat w hw)
  have hk' : (Cond.classLink RX2 ik cls).before args s' = true := hat' _ (Or.inl hkG)
  have hini' : (Cond.initialized cls).before args s' = true := hat' _ (Or.inl hiG)
  have hU' : vx_Zq Bundle.tN "UNASSIGNED_STACK" Bundle.steD A s' s'.heap := by rw [hhp]; exact vx_Zq.moved hW0.alike (hU.kept hS.2.1)
  have hN' : vx_Zq Bundle.tN "SUPPRESSED_SENTINEL" Bundle.listD A s' s'.heap := by rw [hhp]; exact vx_Zq.moved hW0.alike (hN.kept hS.2.1)
  have h : ∀ w ∈ zx_ws RX2 ic cls ix rx, w.before args s' = true := vx_own (fun w hw => hat' w (hws w hw)) (vx_isRefq hU'.1) (vx_isRefq hN'.1) hU'.2.word hN'.2.word
  have hown' : s'.vm.findClass RX2 = some m.cls := by rw [hvm]; exact hown
  have hins : (Cond.instantiable cls 6).before args s' = true := h _ (by simp [zx_ws])
  obtain ⟨vm₁, cX, kX, hfX, hkX, -, -, X₁, st1⟩ := Y.newCold hexec (own := RX2) (C := cls) (index := ik) (n := 6) hown' hk' hins hini'
    (g := F0 m pc ls rest) rfl (by rw [hb]; exact d0) (Nat.le_refl _) (Nat.le_refl _)
  generalize hT1 : (T.setVm vm₁).pushCell { cls := cX, slots := kX.instanceTypes.map defaultValue, vm := .none } = T1 at X₁ st1
  have hcat : (Value.ref T.heap.size).category = 1 := rfl
  have hcellA : T1.heap[T.heap.size]? = some (freshCell cX kX) := by rw [← hT1]; exact State.heap_pushCell_size _ _
  have d3' : decode c.code (pc + 3) = .ok (.dup, 1) := by rw [hb]; exact d3
  have d4' : decode c.code (pc + 4) = .ok (.ldc is, 2) := by rw [hb]; exact d4
  have hstr' : vk_R RX2 is text sa s' := vk_R.warm hW0 hstr
  obtain ⟨U, hsteps, hrun, hend, hW, hsame, ce, hce, hcl', hcv⟩ := zx_ctor X₁ hexec htr (own := RX2) (cls := cls) (ic := ic) x0 x1 x2 x5 hown' hcls h (fun x hx => nomatch hx) hfX hkX hcellA (by rw [hhp, hT]; exact Nat.le_refl _) (msg := .ref sa) rfl
    (g := { method := m, pc := pc + 6, locals := ls, stack := .ref sa :: .ref T.heap.size :: .ref T.heap.size :: rest, locked := none }) rfl hsize.symm rfl rfl (rest := rest) rfl
    (by rw [hb]; exact d6) (by rw [hb]; exact d9) (fun x hx => (hout x hx).elim) hRframes (by simp only [List.map_cons, List.sum_cons, hcat]; show 2 * 0 + _ + 81 ≤ R.locals; omega) hlocks
  obtain ⟨f1, f2⟩ := vx_frame hsame
  rw [hhp] at f1 f2
  have hWs : s.WarmedH U.vm := State.WarmedH.trans hW0 hW
  have hcl : s.vm.findClass cls = some ce.cls := by
    rw [hvm] at hcl'
    exact hcl'
  have hall : s.sameButNew ({ U with vm := s.vm } : State) locs mc ms := by
    subst hA
    obtain ⟨e1, e2⟩ := hsame
    rw [State.setFrames_setFrames] at e1
    have h2 : (T.setVm s.vm).sameButNew ({ U with vm := s.vm } : State) [] (0 + 1) (0 + 6) := ⟨e1, e2⟩
    have h3 := X.same.trans h2
    rw [List.append_nil] at h3
    exact h3.mono hc hs
  have hkeep : ∀ q : Nat, q < H.size → U.heap[q]? = H[q]? := fun q hq => f2 q hq (fun z hz => nomatch hz)
  have hx : XQ D A Wf pX cls s U := ⟨u, trivial, ⟨hpx, hP.kept (fun k q hk => hkeep _ (vx_lt hP hk)), hD⟩, Nat.le_trans hS.1 f1, fun q h1 h2 => by rw [hkeep q (Nat.lt_of_lt_of_le h1 hS.1)]; exact hS.2.1 q h1 h2⟩
  refine ⟨U, ?_, .threw T.heap.size, hrun, hend, Or.inr ⟨T.heap.size, rfl, cls, ce, locs, hx, hce, hcv, hcl, hWs, hall, hS.2.2⟩⟩
  refine st1 _ ?_
  show Steps p.tables e below (T1.setTop { method := m, pc := pc + 3, locals := ls, stack := .ref T.heap.size :: rest, locked := none }) _
  jvm_step X₁.here [X₁.here.top, hexec, d3', Value.category]
  exact X₁.ldcString hexec (own := RX2) (text := text) (index := is) (a := sa) hown' hstr'.1 hstr'.2
    (g := { method := m, pc := pc + 4, locals := ls, stack := .ref T.heap.size :: .ref T.heap.size :: rest, locked := none }) rfl d4' _ hsteps
/-- what a callee threw goes on to the caller -/
theorem zx_O {S : Type} {Qc : Array Value → State → Outcome → State → Prop} {Wf : S → va_W} {pX : String → S → Prop} {E : String} {ce : Cell} {q : Addr} {mc ms : Nat} (u : S) (hP : va_P D vwCl (Wf u) H) (hD : va_D A (Wf u)) (hS : va_S A s.heap H locs) (hpx : pX E u) (hout : ∀ x ∈ c.exceptionTable.toList, False) (hlocks : meth.locks = false) (hcell : H[q]? = some ce) (hv : ce.vm = .none) (hcl : s.vm.findClass E = some ce.cls) (hc : cells ≤ mc) (hs : slots ≤ ms) :
    vx_W p l e R s m args below meth c H locs cells slots (vx_MQ below Qc (XQ D A Wf pX) args s mc ms A) (F0 m pc ls rest) q :=
  vx_out (fun x hx => (hout x hx).elim) hlocks hcell hv hcl (fun t ht hW => ⟨u, trivial, ⟨hpx, by rw [ht]; exact hP, hD⟩, hS.F ht⟩) hS.2.2 hc hs
/-- behind a call that gives an int or throws -/
theorem VM_goi {S : Type} {post : Int → S → Prop} {Wf : S → va_W} {pX : String → S → Prop} {ws wc wr : va_W} {mc ms : Nat} {a : Array Value} (hP : va_P D vwCl ws H) (hD : va_D A ws) (hS : va_S A s.heap H locs) (hA : ∀ q : Nat, s.heap.size ≤ q → A q) (pl rl : List Nat) (hC : pl.map (fun i => ws[i]?) = wc.map some) (hR : rl.map (fun i => ws[i]?) = wr.map some) (hn : va_nd rl = true) (hdis : ∀ i ∈ rl, i ∉ pl)
    (hr : vx_Run p l e R s m args below meth c H locs cells slots mc ms (F0 m pc ls st) rest (QMi D (va_A wc H.size) post Wf a) (XQ D (va_A wc H.size) Wf pX) (va_A wc H.size))
    (kx : ∀ (E : String) (ce : Cell) (q9 : Addr) (u : S) (H1 : Heap) (locs1 : List Loc), pX E u → va_P D vwCl (wr ++ Wf u) H1 → va_D A (wr ++ Wf u) → va_S A s.heap H1 locs1 → H1[q9]? = some ce → ce.vm = .none → s.vm.findClass E = some ce.cls → vx_W p l e R s m args below meth c H1 locs1 (cells + mc) (slots + ms) Q (F0 m pc ls rest) q9)
    (kk : ∀ (r : Int) (u : S) (H1 : Heap) (locs1 : List Loc), post r u → va_P D vwCl (wr ++ Wf u) H1 → va_D A (wr ++ Wf u) → va_S A s.heap H1 locs1 → W p l e R s m args below meth c H1 locs1 (cells + mc) (slots + ms) Q (F0 m (pc + 3) ls (.int (iI r) :: rest))) : W p l e R s m args below meth c H locs cells slots Q (F0 m pc ls st) := by
  have hF := va_free (wc := wc) hD hS hA pl hC
  refine vx_calli hr hS (fun q _ h => hF q h) hF (fun q _ h => hF q h) (fun E ce q9 u t H1 locs1 ht hvm hw hB hz hk hS1 hce hcv hcl => ?_) (fun r u t H1 locs1 ht hvm hw hB hz hk hS1 => ?_)
  · obtain ⟨hpx, hP1, hD1⟩ := hB
    rw [ht] at hP1
    obtain ⟨hP2, hD2⟩ := va_join hP hD pl rl hC hR hn hdis hk hF hP1 hD1
    exact kx E ce q9 u H1 locs1 hpx hP2 hD2 hS1 hce hcv hcl
  · obtain ⟨z, rfl, hq⟩ := hw
    obtain ⟨hP1, hD1⟩ := hB
    rw [ht] at hP1
    obtain ⟨hP2, hD2⟩ := va_join hP hD pl rl hC hR hn hdis hk hF hP1 hD1
    exact kk z u H1 locs1 hq hP2 hD2 hS1
theorem VM_gov {S : Type} {post : S → Prop} {Wf : S → va_W} {pX : String → S → Prop} {ws wc wr : va_W} {mc ms : Nat} {a : Array Value} (hP : va_P D vwCl ws H) (hD : va_D A ws) (hS : va_S A s.heap H locs) (hA : ∀ q : Nat, s.heap.size ≤ q → A q) (pl rl : List Nat) (hC : pl.map (fun i => ws[i]?) = wc.map some) (hR : rl.map (fun i => ws[i]?) = wr.map some) (hn : va_nd rl = true) (hdis : ∀ i ∈ rl, i ∉ pl)
    (hr : vx_Run p l e R s m args below meth c H locs cells slots mc ms (F0 m pc ls st) rest (QMv D (va_A wc H.size) post Wf a) (XQ D (va_A wc H.size) Wf pX) (va_A wc H.size))
    (kx : ∀ (E : String) (ce : Cell) (q9 : Addr) (u : S) (H1 : Heap) (locs1 : List Loc), pX E u → va_P D vwCl (wr ++ Wf u) H1 → va_D A (wr ++ Wf u) → va_S A s.heap H1 locs1 → H1[q9]? = some ce → ce.vm = .none → s.vm.findClass E = some ce.cls → vx_W p l e R s m args below meth c H1 locs1 (cells + mc) (slots + ms) Q (F0 m pc ls rest) q9)
    (kk : ∀ (u : S) (H1 : Heap) (locs1 : List Loc), post u → va_P D vwCl (wr ++ Wf u) H1 → va_D A (wr ++ Wf u) → va_S A s.heap H1 locs1 → W p l e R s m args below meth c H1 locs1 (cells + mc) (slots + ms) Q (F0 m (pc + 3) ls rest)) : W p l e R s m args below meth c H locs cells slots Q (F0 m pc ls st) := by
  have hF := va_free (wc := wc) hD hS hA pl hC
  refine vx_callv hr hS (fun q _ h => hF q h) hF (fun q _ h => hF q h) (fun E ce q9 u t H1 locs1 ht hvm hw hB hz hk hS1 hce hcv hcl => ?_) (fun u t H1 locs1 ht hvm hw hB hz hk hS1 => ?_)
  · obtain ⟨hpx, hP1, hD1⟩ := hB
    rw [ht] at hP1
    obtain ⟨hP2, hD2⟩ := va_join hP hD pl rl hC hR hn hdis hk hF hP1 hD1
    exact kx E ce q9 u H1 locs1 hpx hP2 hD2 hS1 hce hcv hcl
  · obtain ⟨hP1, hD1⟩ := hB
    rw [ht] at hP1
    obtain ⟨hP2, hD2⟩ := va_join hP hD pl rl hC hR hn hdis hk hF hP1 hD1
    exact kk u H1 locs1 hw hP2 hD2 hS1
theorem VM_pre {As : List Value} {ws wc : va_W} (hK : KK D cI cJ s) (hP : va_P D vwCl ws H) (hD : va_D A ws) (hS : va_S A s.heap H locs) (hA : ∀ q : Nat, s.heap.size ≤ q → A q) (hE : EX A s s.heap) (pl : List Nat) (hC : pl.map (fun i => ws[i]?) = wc.map some) (hn : va_nd pl = true) (hs : pl.filterMap (fun i => ws[i]?) = wc) : ∀ U : State, U.heap = H → s.WarmedH U.vm → va_Pc As (VPre D cI cJ wc H.size) As.toArray U := by
  intro U hU hW
  refine ⟨rfl, (MM_pre (As := As) hK hP hD pl hC hn hs U hU hW).2, ?_⟩
  rw [hU]
  exact ((hE.kept hS.2.1).narrow (va_free (wc := wc) hD hS hA pl hC)).warm hW
/-- calls of methods that may throw, on an object of the world -/
theorem zx_Vi {y : MethodName} {bytes : ByteArray} {maxL index k n mc ms : Nat} {ret : Option FieldType} {own C : String} {b : Addr} {As : List Value} {ws wc wr : va_W} {S : Type} {post : Int → S → Prop} {Wf : S → va_W} {pX : String → S → Prop} (hexec : p.tables.exec = Jvm.exec) (hb : c.code = cc) (hml : c.maxLocals = ls.size) (hts : ∀ w ∈ GW, w.before args s = true) (hown : s.vm.findClass own = some m.cls) (hK : KK D cI cJ s) (hP : va_P D vwCl ws H) (hD : va_D A ws) (hS : va_S A s.heap H locs) (hA : ∀ q : Nat, s.heap.size ≤ q → A q) (hE : EX A s s.heap)
    (hM : VMi l y (.code y bytes maxL ret) k mc ms (.ref b :: As) D cI cJ wc H.size post Wf pX) (hG : GoodIn GW (wsV own index C y (.code y bytes maxL ret :: GW))) (hd : y.cls = C ∧ y.cls ≠ "java/lang/invoke/MethodHandle" ∧ y.cls ≠ "java/lang/invoke/VarHandle" ∧ (parseMethodDescriptor y.desc).map (fun d => d.parameters.length) = some n) (hn : As.length = n)
    (hR : k + 1 ≤ R.frames ∧ 8 + (maxL + 11) + 64 * k ≤ R.locals) (hf : cells + mc ≤ R.cells ∧ slots + ms ≤ R.slots) (pl rl : List Nat) (hC : pl.map (fun i => ws[i]?) = wc.map some) (hRl : rl.map (fun i => ws[i]?) = wr.map some) (hn1 : va_nd pl = true) (hn2 : va_nd rl = true) (hdis : ∀ i ∈ rl, i ∉ pl) (q0 : Nat) {ci : Nat} {fs : List Value} {q : vw_C} (hc : vwCl[ci]? = some q) (hq : q.1 = C) (he : ws[q0]? = some (b, .inr (ci, fs))) (hst : st = As.reverse ++ .ref b :: rest) (hW : (rest.map fun v => v.category).sum ≤ 8) (hdg : decode cc pc = .ok (.invokevirtual index, 3))
    (kx : ∀ (E : String) (ce : Cell) (q9 : Addr) (u : S) (H1 : Heap) (locs1 : List Loc), pX E u → va_P D vwCl (wr ++ Wf u) H1 → va_D A (wr ++ Wf u) → va_S A s.heap H1 locs1 → H1[q9]? = some ce → ce.vm = .none → s.vm.findClass E = some ce.cls → vx_W p l e R s m args below meth c H1 locs1 (cells + mc) (slots + ms) Q (F0 m pc ls rest) q9)
    (kk : ∀ (r : Int) (u : S) (H1 : Heap) (locs1 : List Loc), post r u → va_P D vwCl (wr ++ Wf u) H1 → va_D A (wr ++ Wf u) → va_S A s.heap H1 locs1 → W p l e R s m args below meth c H1 locs1 (cells + mc) (slots + ms) Q (F0 m (pc + 3) ls (.int (iI r) :: rest))) : W p l e R s m args below meth c H locs cells slots Q (F0 m pc ls st) := by
  have hr := va_recv hK.1 hP hc he
  rw [hq] at hr
  exact VM_goi hP hD hS hA pl rl hC hRl hn2 hdis (vx_runV (C := C) (As := As) (rest := rest) (nL := ls.size) ⟨hexec, hb, hml, hown, hts⟩ hM (cwV n hts hG rfl rfl rfl hd hR) ⟨VPre_blind, hr, VM_pre hK hP hD hS hA hE pl hC hn1 (fm_of hC)⟩ rfl hn rfl hst (lv_room hW) hdg hf) kx kk
theorem zx_Vv {y : MethodName} {bytes : ByteArray} {maxL index k n mc ms : Nat} {own C : String} {b : Addr} {As : List Value} {ws wc wr : va_W} {S : Type} {post : S → Prop} {Wf : S → va_W} {pX : String → S → Prop} (hexec : p.tables.exec = Jvm.exec) (hb : c.code = cc) (hml : c.maxLocals = ls.size) (hts : ∀ w ∈ GW, w.before args s = true) (hown : s.vm.findClass own = some m.cls) (hK : KK D cI cJ s) (hP : va_P D vwCl ws H) (hD : va_D A ws) (hS : va_S A s.heap H locs) (hA : ∀ q : Nat, s.heap.size ≤ q → A q) (hE : EX A s s.heap)
    (hM : VMv l y (.code y bytes maxL none) k mc ms (.ref b :: As) D cI cJ wc H.size post Wf pX) (hG : GoodIn GW (wsV own index C y (.code y bytes maxL none :: GW))) (hd : y.cls = C ∧ y.cls ≠ "java/lang/invoke/MethodHandle" ∧ y.cls ≠ "java/lang/invoke/VarHandle" ∧ (parseMethodDescriptor y.desc).map (fun d => d.parameters.length) = some n) (hn : As.length = n)
    (hR : k + 1 ≤ R.frames ∧ 8 + (maxL + 11) + 64 * k ≤ R.locals) (hf : cells + mc ≤ R.cells ∧ slots + ms ≤ R.slots) (pl rl : List Nat) (hC : pl.map (fun i => ws[i]?) = wc.map some) (hRl : rl.map (fun i => ws[i]?) = wr.map some) (hn1 : va_nd pl = true) (hn2 : va_nd rl = true) (hdis : ∀ i ∈ rl, i ∉ pl) (q0 : Nat) {ci : Nat} {fs : List Value} {q : vw_C} (hc : vwCl[ci]? = some q) (hq : q.1 = C) (he : ws[q0]? = some (b, .inr (ci, fs))) (hst : st = As.reverse ++ .ref b :: rest) (hW : (rest.map fun v => v.category).sum ≤ 8) (hdg : decode cc pc = .ok (.invokevirtual index, 3))
    (kx : ∀ (E : String) (ce : Cell) (q9 : Addr) (u : S) (H1 : Heap) (locs1 : List Loc), pX E u → va_P D vwCl (wr ++ Wf u) H1 → va_D A (wr ++ Wf u) → va_S A s.heap H1 locs1 → H1[q9]? = some ce → ce.vm = .none → s.vm.findClass E = some ce.cls → vx_W p l e R s m args below meth c H1 locs1 (cells + mc) (slots + ms) Q (F0 m pc ls rest) q9)
    (kk : ∀ (u : S) (H1 : Heap) (locs1 : List Loc), post u → va_P D vwCl (wr ++ Wf u) H1 → va_D A (wr ++ Wf u) → va_S A s.heap H1 locs1 → W p l e R s m args below meth c H1 locs1 (cells + mc) (slots + ms) Q (F0 m (pc + 3) ls rest)) : W p l e R s m args below meth c H locs cells slots Q (F0 m pc ls st) := by
  have hr := va_recv hK.1 hP hc he
  rw [hq] at hr
  exact VM_gov hP hD hS hA pl rl hC hRl hn2 hdis (vx_runV (C := C) (As := As) (rest := rest) (nL := ls.size) ⟨hexec, hb, hml, hown, hts⟩ hM (cwV n hts hG rfl rfl rfl hd hR) ⟨VPre_blind, hr, VM_pre hK hP hD hS hA hE pl hC hn1 (fm_of hC)⟩ rfl hn rfl hst (lv_room hW) hdg hf) kx kk
end ZT
end
section
set_option maxRecDepth 100000 in
set_option maxHeartbeats 4000000 in
theorem c_X2_squares (l : Launch) (D : va_G) (cI cJ : ClassId) (tt fl s1 s2 pn d1 r1 : Nat) (lim bs P sm C R np c1 : Int) (gn g1 : Nat → Int) (N L : Int → Int) (hF : FlOK C R np N gn) (hL : LenOK L g1) (hlm : 1 ≤ lim ∧ lim ≤ 60) : PM l yX2_squares (.code yX2_squares cX2_squares 3 (some .int)) 3 [.ref tt] D cI cJ [(tt, .inr (2, [.ref fl, .int (iI lim), .ref s1, .ref s2, .int (iI bs), .int (iI P), .int (iI sm)])), (fl, .inr (0, [.int (iI C), .int (iI R), .ref pn, .int (iI np)])), (pn, .inl (cI, 49, .inl (aI gn))), (s1, .inr (1, [.ref d1, .ref r1, .int (iI c1)])), (d1, .inl (cI, 16807, .inl (aI g1)))] (fun r => r = sqN L lim 49) := by
  obtain ⟨hC1, hC2, hR1, hR2, hp1, hp2, -, -⟩ := id hF
  refine PM_of (by decide) rfl (Nat.le_of_ble_eq_true rfl) (fun p e s m below meth c ls hx hb hr hts hown hlk hml hK hP hl => ?_)
  have hl : lv_has ls 3 [(0, .ref tt)] := hl
  refine zv_iconst hx hb dX2_squares_0 ?_
  refine lv_istore_n (lv' := [(1, .int (iI 0)), (0, .ref tt)]) hx hb dX2_squares_1 rfl hl (by decide) rfl (fun ls hl => ?_)
  refine zv_iconst hx hb dX2_squares_2 ?_
  refine lv_istore_n (lv' := [(2, .int (iI 0)), (1, .int (iI 0)), (0, .ref tt)]) hx hb dX2_squares_3 rfl hl (by decide) rfl (fun ls hl => ?_)
  have loop4 : ∀ (nn : Nat) (u i : Int) (j : Nat), (i = (j : Int)) → ((j : Int) ≤ 49) → (u = sqN L lim j) → (49 - (j : Int) < (nn : Int)) → ∀ ls : Array Slot, lv_has ls 3 [(0, .ref tt), (1, .int (iI u)), (2, .int (iI i))] → W p l e (lvl 3) s m [.ref tt].toArray below meth c s.heap [] 0 0 (MQ below (PQ (fun r => r = sqN L lim 49)) [.ref tt].toArray s 0 0 (fun _ => False)) (F0 m 4 ls []) := by
    intro nn
    induction nn with
    | zero => intro u i j hij hj hu hms; exfalso; omega
    | succ nn ih4 =>
      intro u i j hij hj hu hms ls hl
      have hlb := lsZ_b hL i
      refine lv_iload_n hx hb dX2_squares_4 rfl (lv_at hl 2 rfl) ?_
      refine zv_bipush hx hb dX2_squares_5 (by decide) ?_
      refine zv_icmp_ge hx hb dX2_squares_7 (tgt := 31) (by decide) ⟨by omega, by omega⟩ ⟨by omega, by omega⟩ (fun c_1 => ?_) (fun c_1 => ?_)
      · refine lv_iload_n hx hb dX2_squares_31 rfl (lv_at hl 1 rfl) ?_
        exact PM_iret hx hb hr hlk dX2_squares_32 (by rw [hu, show j = 49 by omega])
      · refine lv_aload_n hx hb dX2_squares_10 rfl (lv_at hl 0 rfl) ?_
        refine lv_aload_n hx hb dX2_squares_11 rfl (lv_at hl 0 rfl) ?_
        refine lv_iload_n hx hb dX2_squares_12 rfl (lv_at hl 2 rfl) ?_
        refine zc_V (As := [.int (iI i)]) (rest := [.ref tt]) (ws := [(tt, .inr (2, [.ref fl, .int (iI lim), .ref s1, .ref s2, .int (iI bs), .int (iI P), .int (iI sm)])), (fl, .inr (0, [.int (iI C), .int (iI R), .ref pn, .int (iI np)])), (pn, .inl (cI, 49, .inl (aI gn))), (s1, .inr (1, [.ref d1, .ref r1, .int (iI c1)])), (d1, .inl (cI, 16807, .inl (aI g1)))]) (n := 1) hx hb (hml.trans hl.1.symm) hts hown hK hP (c_X2_leastLengthOf l D cI cJ tt fl s1 s2 pn d1 r1 lim bs P sm C R np c1 gn g1 N L i hF hL hlm (by omega) (by omega)) (gd_V q_224 q_226 q_1007 q_1 q_227) (by decide +kernel) rfl ⟨Nat.le_of_ble_eq_true rfl, Nat.le_of_ble_eq_true rfl⟩ ⟨Nat.zero_le _, Nat.zero_le _⟩ [0, 1, 2, 3, 4] rfl 0 (ci := 2) rfl rfl rfl rfl (Nat.le_of_ble_eq_true rfl) dX2_squares_13 (fun r_2 hr_2 => ?_)
        subst r_2
        refine zc_V (As := [.int (iI (lsZ L i))]) (rest := []) (ws := [(tt, .inr (2, [.ref fl, .int (iI lim), .ref s1, .ref s2, .int (iI bs), .int (iI P), .int (iI sm)])), (fl, .inr (0, [.int (iI C), .int (iI R), .ref pn, .int (iI np)])), (pn, .inl (cI, 49, .inl (aI gn))), (s1, .inr (1, [.ref d1, .ref r1, .int (iI c1)])), (d1, .inl (cI, 16807, .inl (aI g1)))]) (n := 1) hx hb (hml.trans hl.1.symm) hts hown hK hP (c_X2_isWithinLimit l D cI cJ tt fl s1 s2 pn d1 r1 lim bs P sm C R np c1 gn g1 N L (lsZ L i) hF hL hlm (by omega) (by omega)) (gd_V q_228 q_230 q_1008 q_1 q_231) (by decide +kernel) rfl ⟨Nat.le_of_ble_eq_true rfl, Nat.le_of_ble_eq_true rfl⟩ ⟨Nat.zero_le _, Nat.zero_le _⟩ [0, 1, 2, 3, 4] rfl 0 (ci := 2) rfl rfl rfl rfl (Nat.le_of_ble_eq_true rfl) dX2_squares_16 (fun r_3 hr_3 => ?_)
        have hr9 := hr_3
        refine zv_if_eq hx hb dX2_squares_19 (tgt := 25) (by decide) ⟨by omega, by omega⟩ (fun c_4 => ?_) (fun c_4 => ?_)
        · refine zv_iinc (k := 2) (lv' := [(2, .int (iI (i + 1))), (0, .ref tt), (1, .int (iI u))]) hx hb dX2_squares_25 hl rfl (by decide) rfl (fun ls hl => ?_)
          refine lv_goto (tgt := 4) hx hb dX2_squares_28 (by decide) ?_
          try (have hr9 := hr9)
          exact ih4 u (i + 1) (j + 1) (by omega) (by omega) (by unfold sqN; rw [← hu, ← hij]; first | rw [if_pos (by omega)] | (rw [if_neg (by omega)]; omega)) (by omega) ls (lv_sub hl [1, 2, 0] rfl)
        · refine zv_iinc (k := 1) (lv' := [(1, .int (iI (u + 1))), (0, .ref tt), (2, .int (iI i))]) hx hb dX2_squares_22 hl rfl (by decide) rfl (fun ls hl => ?_)
          refine zv_iinc (k := 2) (lv' := [(2, .int (iI (i + 1))), (1, .int (iI (u + 1))), (0, .ref tt)]) hx hb dX2_squares_25 hl rfl (by decide) rfl (fun ls hl => ?_)
          refine lv_goto (tgt := 4) hx hb dX2_squares_28 (by decide) ?_
          try (have hr9 := hr9)
          exact ih4 (u + 1) (i + 1) (j + 1) (by omega) (by omega) (by unfold sqN; rw [← hu, ← hij]; first | rw [if_pos (by omega)] | (rw [if_neg (by omega)]; omega)) (by omega) ls (lv_sub hl [2, 1, 0] rfl)
  exact loop4 50 0 0 0 (by omega) (by omega) rfl (by omega) ls (lv_sub hl [2, 1, 0] rfl)
set_option maxRecDepth 100000 in
set_option maxHeartbeats 4000000 in
theorem c_X2_requireSquare (l : Launch) (hl0 : l.stackTraces = false) (D : va_G) (cI cJ : ClassId) (tt fl s1 s2 pn : Nat) (lim bs P sm C R np : Int) (gn : Nat → Int) (N : Int → Int) (a b : Int) (hF : FlOK C R np N gn) (ha1 : -2147483648 ≤ a) (ha2 : a < 2147483648) (hb1 : -2147483648 ≤ b) (hb2 : b < 2147483648) (sz : Nat) : VMv l yX2_requireSquare (.code yX2_requireSquare cX2_requireSquare 3 none) 8 1 6 [.ref tt, .int (iI a), .int (iI b)] D cI cJ [(tt, .inr (2, [.ref fl, .int (iI lim), .ref s1, .ref s2, .int (iI bs), .int (iI P), .int (iI sm)])), (fl, .inr (0, [.int (iI C), .int (iI R), .ref pn, .int (iI np)])), (pn, .inl (cI, 49, .inl (aI gn)))] sz (fun (u : Unit) => (0 ≤ a ∧ a < C ∧ 0 ≤ b ∧ b < R)) (fun u : Unit => [(tt, .inr (2, [.ref fl, .int (iI lim), .ref s1, .ref s2, .int (iI bs), .int (iI P), .int (iI sm)])), (fl, .inr (0, [.int (iI C), .int (iI R), .ref pn, .int (iI np)])), (pn, .inl (cI, 49, .inl (aI gn)))]) (fun (E : String) (u : Unit) => E = eIO ∧ ¬ (0 ≤ a ∧ a < C ∧ 0 ≤ b ∧ b < R)) := by
  obtain ⟨hC1, hC2, hR1, hR2, hp1, hp2, -, -⟩ := id hF
  refine VM_of (Qc := fun A => QMv D A (fun (u : Unit) => (0 ≤ a ∧ a < C ∧ 0 ≤ b ∧ b < R)) (fun u : Unit => [(tt, .inr (2, [.ref fl, .int (iI lim), .ref s1, .ref s2, .int (iI bs), .int (iI P), .int (iI sm)])), (fl, .inr (0, [.int (iI C), .int (iI R), .ref pn, .int (iI np)])), (pn, .inl (cI, 49, .inl (aI gn)))])) (XC := fun A => XQ D A (fun u : Unit => [(tt, .inr (2, [.ref fl, .int (iI lim), .ref s1, .ref s2, .int (iI bs), .int (iI P), .int (iI sm)])), (fl, .inr (0, [.int (iI C), .int (iI R), .ref pn, .int (iI np)])), (pn, .inl (cI, 49, .inl (aI gn)))]) (fun (E : String) (u : Unit) => E = eIO ∧ ¬ (0 ≤ a ∧ a < C ∧ 0 ≤ b ∧ b < R))) (by decide) rfl (Nat.le_of_ble_eq_true rfl) (fun p e s m below meth c ls A hx hb hr hts hown hlk hml hin hK hP hD hA hS hl hE hout => ?_)
  have hl : lv_has ls 3 [(0, .ref tt), (1, .int (iI a)), (2, .int (iI b))] := hl
  refine lv_aload_n hx hb dX2_requireSquare_0 rfl (lv_at hl 0 rfl) ?_
  refine va_get (D := D) (ci := 2) (v := .ref fl) (C := RX2) (T := TX2) (N := 7) hx hb hts uX2 hown hK.1 hP 0 rfl rfl 0 (by decide) (hts _ q_157) (fun _ h9 => h9) rfl dX2_requireSquare_1 ?_
  refine lv_iload_n hx hb dX2_requireSquare_4 rfl (lv_at hl 1 rfl) ?_
  refine lv_iload_n hx hb dX2_requireSquare_5 rfl (lv_at hl 2 rfl) ?_
  refine zc_V (As := [.int (iI a), .int (iI b)]) (rest := []) (ws := [(tt, .inr (2, [.ref fl, .int (iI lim), .ref s1, .ref s2, .int (iI bs), .int (iI P), .int (iI sm)])), (fl, .inr (0, [.int (iI C), .int (iI R), .ref pn, .int (iI np)])), (pn, .inl (cI, 49, .inl (aI gn)))]) (n := 2) hx hb (hml.trans hl.1.symm) hts hown hK hP (c_X0_has l D cI cJ fl pn C R np gn N a b hF (by omega) (by omega) (by omega) (by omega)) (gd_V q_248 q_118 q_119 q_3 q_120) (by decide +kernel) rfl ⟨Nat.le_of_ble_eq_true rfl, Nat.le_of_ble_eq_true rfl⟩ ⟨Nat.le_of_ble_eq_true rfl, Nat.le_of_ble_eq_true rfl⟩ [1, 2] rfl 1 (ci := 0) rfl rfl rfl rfl (Nat.le_of_ble_eq_true rfl) dX2_requireSquare_6 (fun r_1 hr_1 => ?_)
  refine zv_if_ne hx hb dX2_requireSquare_9 (tgt := 22) (by decide) ⟨by omega, by omega⟩ (fun c_2 => ?_) (fun c_2 => ?_)
  · exact vx_ret (MM_vret (()) hx hb hr hlk hP hD hS (Nat.le_of_ble_eq_true rfl) (Nat.le_of_ble_eq_true rfl) dX2_requireSquare_22 (by omega))
  · exact zx_T hx hb hl0 hown hts xt_IO (List.mem_of_getElem? (i := 9) rfl) hE (()) hP hD hS (⟨rfl, by omega⟩) (hml.trans hl.1.symm) dX2_requireSquare_12 dX2_requireSquare_15 dX2_requireSquare_16 dX2_requireSquare_18 dX2_requireSquare_21 hout (Nat.le_of_ble_eq_true rfl) (Nat.le_of_ble_eq_true rfl) (Nat.le_of_ble_eq_true rfl) (Nat.le_of_ble_eq_true rfl) hlk (Nat.le_of_ble_eq_true rfl) (Nat.le_of_ble_eq_true rfl)
end
section
set_option maxRecDepth 100000 in
set_option maxHeartbeats 4000000 in
theorem c_X2_letterAt (l : Launch) (hl0 : l.stackTraces = false) (D : va_G) (cI cJ : ClassId) (tt fl s1 s2 pn d1 r1 : Nat) (lim bs P sm C R np c1 : Int) (gn g1 : Nat → Int) (N L : Int → Int) (k : Int) (hF : FlOK C R np N gn) (hL : LenOK L g1) (hlm : 1 ≤ lim ∧ lim ≤ 60) (hP0 : 0 ≤ P ∧ P < 16807) (hk1 : -2147483648 ≤ k) (hk2 : k < 2147483648) (sz : Nat) : VMi l yX2_letterAt (.code yX2_letterAt cX2_letterAt 5 (some .int)) 8 1 6 [.ref tt, .int (iI k)] D cI cJ [(tt, .inr (2, [.ref fl, .int (iI lim), .ref s1, .ref s2, .int (iI bs), .int (iI P), .int (iI sm)])), (fl, .inr (0, [.int (iI C), .int (iI R), .ref pn, .int (iI np)])), (pn, .inl (cI, 49, .inl (aI gn))), (s1, .inr (1, [.ref d1, .ref r1, .int (iI c1)])), (d1, .inl (cI, 16807, .inl (aI g1)))] sz (fun (r : Int) (u : Unit) => (0 ≤ k ∧ k < lenZ (P % 343)) ∧ r = dvZ (P % 343) (lenZ (P % 343) - 1 - k).toNat % 7 - 1) (fun u : Unit => [(tt, .inr (2, [.ref fl, .int (iI lim), .ref s1, .ref s2, .int (iI bs), .int (iI P), .int (iI sm)])), (fl, .inr (0, [.int (iI C), .int (iI R), .ref pn, .int (iI np)])), (pn, .inl (cI, 49, .inl (aI gn))), (s1, .inr (1, [.ref d1, .ref r1, .int (iI c1)])), (d1, .inl (cI, 16807, .inl (aI g1)))]) (fun (E : String) (u : Unit) => E = eIO ∧ ¬ (0 ≤ k ∧ k < lenZ (P % 343))) := by
  obtain ⟨hC1, hC2, hR1, hR2, hp1, hp2, -, -⟩ := id hF
  obtain ⟨hP1, hP2⟩ := id hP0
  have hlz := lenZ_b (P % 343)
  refine VM_of (Qc := fun A => QMi D A (fun (r : Int) (u : Unit) => (0 ≤ k ∧ k < lenZ (P % 343)) ∧ r = dvZ (P % 343) (lenZ (P % 343) - 1 - k).toNat % 7 - 1) (fun u : Unit => [(tt, .inr (2, [.ref fl, .int (iI lim), .ref s1, .ref s2, .int (iI bs), .int (iI P), .int (iI sm)])), (fl, .inr (0, [.int (iI C), .int (iI R), .ref pn, .int (iI np)])), (pn, .inl (cI, 49, .inl (aI gn))), (s1, .inr (1, [.ref d1, .ref r1, .int (iI c1)])), (d1, .inl (cI, 16807, .inl (aI g1)))])) (XC := fun A => XQ D A (fun u : Unit => [(tt, .inr (2, [.ref fl, .int (iI lim), .ref s1, .ref s2, .int (iI bs), .int (iI P), .int (iI sm)])), (fl, .inr (0, [.int (iI C), .int (iI R), .ref pn, .int (iI np)])), (pn, .inl (cI, 49, .inl (aI gn))), (s1, .inr (1, [.ref d1, .ref r1, .int (iI c1)])), (d1, .inl (cI, 16807, .inl (aI g1)))]) (fun (E : String) (u : Unit) => E = eIO ∧ ¬ (0 ≤ k ∧ k < lenZ (P % 343)))) (by decide) rfl (Nat.le_of_ble_eq_true rfl) (fun p e s m below meth c ls A hx hb hr hts hown hlk hml hin hK hP hD hA hS hl hE hout => ?_)
  have hl : lv_has ls 5 [(0, .ref tt), (1, .int (iI k))] := hl
  refine lv_aload_n hx hb dX2_letterAt_0 rfl (lv_at hl 0 rfl) ?_
  refine zc_V (As := []) (rest := []) (ws := [(tt, .inr (2, [.ref fl, .int (iI lim), .ref s1, .ref s2, .int (iI bs), .int (iI P), .int (iI sm)])), (fl, .inr (0, [.int (iI C), .int (iI R), .ref pn, .int (iI np)])), (pn, .inl (cI, 49, .inl (aI gn))), (s1, .inr (1, [.ref d1, .ref r1, .int (iI c1)])), (d1, .inl (cI, 16807, .inl (aI g1)))]) (n := 0) hx hb (hml.trans hl.1.symm) hts hown hK hP (c_X2_letters l D cI cJ tt fl s1 s2 pn d1 r1 lim bs P sm C R np c1 gn g1 N L hF hL hlm hP0) (gd_V q_428 q_191 q_192 q_1 q_193) (by decide +kernel) rfl ⟨Nat.le_of_ble_eq_true rfl, Nat.le_of_ble_eq_true rfl⟩ ⟨Nat.le_of_ble_eq_true rfl, Nat.le_of_ble_eq_true rfl⟩ [0, 1, 2, 3, 4] rfl 0 (ci := 2) rfl rfl rfl rfl (Nat.le_of_ble_eq_true rfl) dX2_letterAt_1 (fun r_1 hr_1 => ?_)
  subst r_1
  refine lv_istore_n (lv' := [(2, .int (iI (lenZ (P % 343)))), (0, .ref tt), (1, .int (iI k))]) hx hb dX2_letterAt_4 rfl hl (by decide) rfl (fun ls hl => ?_)
  refine lv_iload_n hx hb dX2_letterAt_5 rfl (lv_at hl 2 rfl) ?_
  refine zv_if_lt hx hb dX2_letterAt_6 (tgt := 14) (by decide) ⟨by omega, by omega⟩ (fun c_2 => ?_) (fun c_2 => ?_)
  · exact zx_T hx hb hl0 hown hts xt_IO (List.mem_of_getElem? (i := 6) rfl) hE (()) hP hD hS (⟨rfl, by omega⟩) (hml.trans hl.1.symm) dX2_letterAt_14 dX2_letterAt_17 dX2_letterAt_18 dX2_letterAt_20 dX2_letterAt_23 hout (Nat.le_of_ble_eq_true rfl) (Nat.le_of_ble_eq_true rfl) (Nat.le_of_ble_eq_true rfl) (Nat.le_of_ble_eq_true rfl) hlk (Nat.le_of_ble_eq_true rfl) (Nat.le_of_ble_eq_true rfl)
  · refine lv_iload_n hx hb dX2_letterAt_9 rfl (lv_at hl 2 rfl) ?_
    refine lv_iload_n hx hb dX2_letterAt_10 rfl (lv_at hl 0 rfl) ?_
    refine zv_icmp_lt hx hb dX2_letterAt_11 (tgt := 24) (by decide) ⟨by omega, by omega⟩ ⟨by omega, by omega⟩ (fun c_3 => ?_) (fun c_3 => ?_)
    · refine lv_aload_n hx hb dX2_letterAt_24 rfl (lv_at hl 1 rfl) ?_
      refine va_get (D := D) (ci := 2) (v := .int (iI P)) (C := RX2) (T := TX2) (N := 7) hx hb hts uX2 hown hK.1 hP 0 rfl rfl 5 (by decide) (hts _ q_162) (fun _ h9 => h9) rfl dX2_letterAt_25 ?_
      refine zc_S (As := [.int (iI P)]) (rest := []) (ws := [(tt, .inr (2, [.ref fl, .int (iI lim), .ref s1, .ref s2, .int (iI bs), .int (iI P), .int (iI sm)])), (fl, .inr (0, [.int (iI C), .int (iI R), .ref pn, .int (iI np)])), (pn, .inl (cI, 49, .inl (aI gn))), (s1, .inr (1, [.ref d1, .ref r1, .int (iI c1)])), (d1, .inl (cI, 16807, .inl (aI g1)))]) (n := 1) hx hb (hml.trans hl.1.symm) hts hown hK hP (c_X2_wordOf l D cI cJ P (by omega) (by omega)) (gd_S q_194 q_111 q_1 q_112) (by decide +kernel) rfl ⟨Nat.le_of_ble_eq_true rfl, Nat.le_of_ble_eq_true rfl⟩ ⟨Nat.le_of_ble_eq_true rfl, Nat.le_of_ble_eq_true rfl⟩ [] rfl rfl (Nat.le_of_ble_eq_true rfl) dX2_letterAt_28 (fun r_4 hr_4 => ?_)
      subst r_4
      refine lv_istore_n (lv' := [(3, .int (iI (P % 343))), (2, .int (iI (lenZ (P % 343)))), (0, .ref tt), (1, .int (iI k))]) hx hb dX2_letterAt_31 rfl hl (by decide) rfl (fun ls hl => ?_)
      refine lv_iload_n hx hb dX2_letterAt_32 rfl (lv_at hl 1 rfl) ?_
      refine zv_iconst hx hb dX2_letterAt_33 ?_
      refine zv_isub hx hb dX2_letterAt_34 ?_
      refine lv_istore (lv' := [(4, .int (iI ((lenZ (P % 343)) - 1))), (3, .int (iI (P % 343))), (2, .int (iI (lenZ (P % 343)))), (0, .ref tt), (1, .int (iI k))]) hx hb dX2_letterAt_35 hl (by decide) rfl (fun ls hl => ?_)
      have loop37 : ∀ (nn : Nat) (x v : Int), (k ≤ v) → (v ≤ lenZ (P % 343) - 1) → (x = dvZ (P % 343) (lenZ (P % 343) - 1 - v).toNat) → (v - k + 1 < (nn : Int)) → ∀ (H : Heap) (locs : List Loc), va_P D vwCl [(tt, .inr (2, [.ref fl, .int (iI lim), .ref s1, .ref s2, .int (iI bs), .int (iI P), .int (iI sm)])), (fl, .inr (0, [.int (iI C), .int (iI R), .ref pn, .int (iI np)])), (pn, .inl (cI, 49, .inl (aI gn))), (s1, .inr (1, [.ref d1, .ref r1, .int (iI c1)])), (d1, .inl (cI, 16807, .inl (aI g1)))] H → va_D A [(tt, .inr (2, [.ref fl, .int (iI lim), .ref s1, .ref s2, .int (iI bs), .int (iI P), .int (iI sm)])), (fl, .inr (0, [.int (iI C), .int (iI R), .ref pn, .int (iI np)])), (pn, .inl (cI, 49, .inl (aI gn))), (s1, .inr (1, [.ref d1, .ref r1, .int (iI c1)])), (d1, .inl (cI, 16807, .inl (aI g1)))] → va_S A s.heap H locs → ∀ ls : Array Slot, lv_has ls 5 [(0, .ref tt), (1, .int (iI k)), (2, .int (iI (lenZ (P % 343)))), (3, .int (iI x)), (4, .int (iI v))] → W p l e (rmM 8 1 6) s m [.ref tt, .int (iI k)].toArray below meth c H locs 0 0 (vx_MQ below (QMi D A (fun (r : Int) (u : Unit) => (0 ≤ k ∧ k < lenZ (P % 343)) ∧ r = dvZ (P % 343) (lenZ (P % 343) - 1 - k).toNat % 7 - 1) (fun u : Unit => [(tt, .inr (2, [.ref fl, .int (iI lim), .ref s1, .ref s2, .int (iI bs), .int (iI P), .int (iI sm)])), (fl, .inr (0, [.int (iI C), .int (iI R), .ref pn, .int (iI np)])), (pn, .inl (cI, 49, .inl (aI gn))), (s1, .inr (1, [.ref d1, .ref r1, .int (iI c1)])), (d1, .inl (cI, 16807, .inl (aI g1)))])) (XQ D A (fun u : Unit => [(tt, .inr (2, [.ref fl, .int (iI lim), .ref s1, .ref s2, .int (iI bs), .int (iI P), .int (iI sm)])), (fl, .inr (0, [.int (iI C), .int (iI R), .ref pn, .int (iI np)])), (pn, .inl (cI, 49, .inl (aI gn))), (s1, .inr (1, [.ref d1, .ref r1, .int (iI c1)])), (d1, .inl (cI, 16807, .inl (aI g1)))]) (fun (E : String) (u : Unit) => E = eIO ∧ ¬ (0 ≤ k ∧ k < lenZ (P % 343)))) [.ref tt, .int (iI k)].toArray s 1 6 A) (F0 m 37 ls []) := by
        intro nn
        induction nn with
        | zero => intro x v hv0 hv1 hxe hms; exfalso; omega
        | succ nn ih37 =>
          intro x v hv0 hv1 hxe hms H locs hP hD hS ls hl
          have hxb := dvZ_b (w := P % 343) (by omega) (by omega) (lenZ (P % 343) - 1 - v).toNat
          refine lv_iload hx hb dX2_letterAt_37 (lv_at hl 4 rfl) ?_
          refine lv_iload_n hx hb dX2_letterAt_39 rfl (lv_at hl 1 rfl) ?_
          refine zv_icmp_le hx hb dX2_letterAt_40 (tgt := 54) (by decide) ⟨by omega, by omega⟩ ⟨by omega, by omega⟩ (fun c_5 => ?_) (fun c_5 => ?_)
          · refine lv_iload_n hx hb dX2_letterAt_54 rfl (lv_at hl 3 rfl) ?_
            refine zc_S (As := [.int (iI x)]) (rest := []) (ws := [(tt, .inr (2, [.ref fl, .int (iI lim), .ref s1, .ref s2, .int (iI bs), .int (iI P), .int (iI sm)])), (fl, .inr (0, [.int (iI C), .int (iI R), .ref pn, .int (iI np)])), (pn, .inl (cI, 49, .inl (aI gn))), (s1, .inr (1, [.ref d1, .ref r1, .int (iI c1)])), (d1, .inl (cI, 16807, .inl (aI g1)))]) (n := 1) hx hb (hml.trans hl.1.symm) hts hown hK hP (c_X2_lastLetterOf l D cI cJ x (by omega) (by omega)) (gd_S q_138 q_139 q_1 q_140) (by decide +kernel) rfl ⟨Nat.le_of_ble_eq_true rfl, Nat.le_of_ble_eq_true rfl⟩ ⟨Nat.le_of_ble_eq_true rfl, Nat.le_of_ble_eq_true rfl⟩ [] rfl rfl (Nat.le_of_ble_eq_true rfl) dX2_letterAt_55 (fun r_6 hr_6 => ?_)
            subst r_6
            exact vx_ret (MM_iret (()) hx hb hr hlk hP hD hS (Nat.le_of_ble_eq_true rfl) (Nat.le_of_ble_eq_true rfl) dX2_letterAt_58 (⟨by omega, by rw [hxe, show v = k by omega]⟩))
          · refine lv_iload_n hx hb dX2_letterAt_43 rfl (lv_at hl 3 rfl) ?_
            refine zv_bipush hx hb dX2_letterAt_44 (by decide) ?_
            refine zv_idiv hx hb dX2_letterAt_46 (by omega) (by omega) (by omega) (by omega) ?_
            refine lv_istore_n (lv' := [(3, .int (iI (x / 7))), (0, .ref tt), (1, .int (iI k)), (2, .int (iI (lenZ (P % 343)))), (4, .int (iI v))]) hx hb dX2_letterAt_47 rfl hl (by decide) rfl (fun ls hl => ?_)
            refine zv_iinc (k := 4) (lv' := [(4, .int (iI (v + (-1)))), (3, .int (iI (x / 7))), (0, .ref tt), (1, .int (iI k)), (2, .int (iI (lenZ (P % 343))))]) hx hb dX2_letterAt_48 hl rfl (by decide) rfl (fun ls hl => ?_)
            refine lv_goto (tgt := 37) hx hb dX2_letterAt_51 (by decide) ?_
            exact ih37 (x / 7) (v + (-1)) (by omega) (by omega) (by rw [hxe, show (lenZ (P % 343) - 1 - (v + -1)).toNat = (lenZ (P % 343) - 1 - v).toNat + 1 by omega]; rfl) (by omega) _ _ hP hD hS ls (lv_sub hl [2, 3, 4, 1, 0] rfl)
      exact loop37 5 (P % 343) ((lenZ (P % 343)) - 1) (by omega) (by omega) (by rw [show (lenZ (P % 343) - 1 - (lenZ (P % 343) - 1)).toNat = 0 by omega]; rfl) (by omega) _ _ hP hD hS ls (lv_sub hl [3, 4, 2, 1, 0] rfl)
    · exact zx_T hx hb hl0 hown hts xt_IO (List.mem_of_getElem? (i := 6) rfl) hE (()) hP hD hS (⟨rfl, by omega⟩) (hml.trans hl.1.symm) dX2_letterAt_14 dX2_letterAt_17 dX2_letterAt_18 dX2_letterAt_20 dX2_letterAt_23 hout (Nat.le_of_ble_eq_true rfl) (Nat.le_of_ble_eq_true rfl) (Nat.le_of_ble_eq_true rfl) (Nat.le_of_ble_eq_true rfl) hlk (Nat.le_of_ble_eq_true rfl) (Nat.le_of_ble_eq_true rfl)
set_option maxRecDepth 100000 in
set_option maxHeartbeats 4000000 in
theorem c_X2_lengthByTrying (l : Launch) (hl0 : l.stackTraces = false) (D : va_G) (cI cJ : ClassId) (tt fl s1 s2 pn d1 r1 : Nat) (lim bs P sm C R np c1 : Int) (gn g1 : Nat → Int) (N L : Int → Int) (k : Int) (hF : FlOK C R np N gn) (hL : LenOK L g1) (hlm : 1 ≤ lim ∧ lim ≤ 60) (hPg : GdZ C R N P) (hbg : GdZ C R N (bs * 343)) (hFW : ∀ mo r : Int, 0 ≤ mo → FW C R N (bs * 343) P 0 mo r → (L P ≤ mo → r = L P) ∧ (¬ L P ≤ mo → mo < r)) (hk1 : -2147483648 ≤ k) (hk2 : k < 2147483648) (sz : Nat) : VMi l yX2_lengthByTrying (.code yX2_lengthByTrying cX2_lengthByTrying 3 (some .int)) 20 1 6 [.ref tt, .int (iI k)] D cI cJ [(tt, .inr (2, [.ref fl, .int (iI lim), .ref s1, .ref s2, .int (iI bs), .int (iI P), .int (iI sm)])), (fl, .inr (0, [.int (iI C), .int (iI R), .ref pn, .int (iI np)])), (pn, .inl (cI, 49, .inl (aI gn))), (s1, .inr (1, [.ref d1, .ref r1, .int (iI c1)])), (d1, .inl (cI, 16807, .inl (aI g1)))] sz (fun (r : Int) (u : Unit) => (0 ≤ k ∧ k ≤ 8) ∧ ((L P ≤ k ∧ r = L P) ∨ (¬ L P ≤ k ∧ r = -1))) (fun u : Unit => [(tt, .inr (2, [.ref fl, .int (iI lim), .ref s1, .ref s2, .int (iI bs), .int (iI P), .int (iI sm)])), (fl, .inr (0, [.int (iI C), .int (iI R), .ref pn, .int (iI np)])), (pn, .inl (cI, 49, .inl (aI gn))), (s1, .inr (1, [.ref d1, .ref r1, .int (iI c1)])), (d1, .inl (cI, 16807, .inl (aI g1)))]) (fun (E : String) (u : Unit) => E = eIA ∧ ¬ (0 ≤ k ∧ k ≤ 8)) := by
  obtain ⟨hC1, hC2, hR1, hR2, hp1, hp2, -, -⟩ := id hF
  have hLb := hL.b P
  refine VM_of (Qc := fun A => QMi D A (fun (r : Int) (u : Unit) => (0 ≤ k ∧ k ≤ 8) ∧ ((L P ≤ k ∧ r = L P) ∨ (¬ L P ≤ k ∧ r = -1))) (fun u : Unit => [(tt, .inr (2, [.ref fl, .int (iI lim), .ref s1, .ref s2, .int (iI bs), .int (iI P), .int (iI sm)])), (fl, .inr (0, [.int (iI C), .int (iI R), .ref pn, .int (iI np)])), (pn, .inl (cI, 49, .inl (aI gn))), (s1, .inr (1, [.ref d1, .ref r1, .int (iI c1)])), (d1, .inl (cI, 16807, .inl (aI g1)))])) (XC := fun A => XQ D A (fun u : Unit => [(tt, .inr (2, [.ref fl, .int (iI lim), .ref s1, .ref s2, .int (iI bs), .int (iI P), .int (iI sm)])), (fl, .inr (0, [.int (iI C), .int (iI R), .ref pn, .int (iI np)])), (pn, .inl (cI, 49, .inl (aI gn))), (s1, .inr (1, [.ref d1, .ref r1, .int (iI c1)])), (d1, .inl (cI, 16807, .inl (aI g1)))]) (fun (E : String) (u : Unit) => E = eIA ∧ ¬ (0 ≤ k ∧ k ≤ 8))) (by decide) rfl (Nat.le_of_ble_eq_true rfl) (fun p e s m below meth c ls A hx hb hr hts hown hlk hml hin hK hP hD hA hS hl hE hout => ?_)
  have hl : lv_has ls 3 [(0, .ref tt), (1, .int (iI k))] := hl
  refine lv_iload_n hx hb dX2_lengthByTrying_0 rfl (lv_at hl 1 rfl) ?_
  refine zv_if_lt hx hb dX2_lengthByTrying_1 (tgt := 10) (by decide) ⟨by omega, by omega⟩ (fun c_1 => ?_) (fun c_1 => ?_)
  · exact zx_T hx hb hl0 hown hts xt_IA (List.mem_of_getElem? (i := 7) rfl) hE (()) hP hD hS (⟨rfl, by omega⟩) (hml.trans hl.1.symm) dX2_lengthByTrying_10 dX2_lengthByTrying_13 dX2_lengthByTrying_14 dX2_lengthByTrying_16 dX2_lengthByTrying_19 hout (Nat.le_of_ble_eq_true rfl) (Nat.le_of_ble_eq_true rfl) (Nat.le_of_ble_eq_true rfl) (Nat.le_of_ble_eq_true rfl) hlk (Nat.le_of_ble_eq_true rfl) (Nat.le_of_ble_eq_true rfl)
  · refine lv_iload_n hx hb dX2_lengthByTrying_4 rfl (lv_at hl 1 rfl) ?_
    refine zv_bipush hx hb dX2_lengthByTrying_5 (by decide) ?_
    refine zv_icmp_le hx hb dX2_lengthByTrying_7 (tgt := 20) (by decide) ⟨by omega, by omega⟩ ⟨by omega, by omega⟩ (fun c_2 => ?_) (fun c_2 => ?_)
    · refine lv_aload_n hx hb dX2_lengthByTrying_20 rfl (lv_at hl 0 rfl) ?_
      refine va_get (D := D) (ci := 2) (v := .ref fl) (C := RX2) (T := TX2) (N := 7) hx hb hts uX2 hown hK.1 hP 0 rfl rfl 0 (by decide) (hts _ q_157) (fun _ h9 => h9) rfl dX2_lengthByTrying_21 ?_
      refine lv_aload_n hx hb dX2_lengthByTrying_24 rfl (lv_at hl 0 rfl) ?_
      refine va_get (D := D) (ci := 2) (v := .int (iI bs)) (C := RX2) (T := TX2) (N := 7) hx hb hts uX2 hown hK.1 hP 0 rfl rfl 4 (by decide) (hts _ q_161) (fun _ h9 => h9) rfl dX2_lengthByTrying_25 ?_
      refine zv_iconst hx hb dX2_lengthByTrying_28 ?_
      refine zc_S (As := [.int (iI bs), .int (iI 0)]) (rest := [.ref fl]) (ws := [(tt, .inr (2, [.ref fl, .int (iI lim), .ref s1, .ref s2, .int (iI bs), .int (iI P), .int (iI sm)])), (fl, .inr (0, [.int (iI C), .int (iI R), .ref pn, .int (iI np)])), (pn, .inl (cI, 49, .inl (aI gn))), (s1, .inr (1, [.ref d1, .ref r1, .int (iI c1)])), (d1, .inl (cI, 16807, .inl (aI g1)))]) (n := 2) hx hb (hml.trans hl.1.symm) hts hown hK hP (c_X2_placeOf l D cI cJ bs 0) (gd_S q_73 q_74 q_1 q_75) (by decide +kernel) rfl ⟨Nat.le_of_ble_eq_true rfl, Nat.le_of_ble_eq_true rfl⟩ ⟨Nat.le_of_ble_eq_true rfl, Nat.le_of_ble_eq_true rfl⟩ [] rfl rfl (Nat.le_of_ble_eq_true rfl) dX2_lengthByTrying_29 (fun r_3 hr_3 => ?_)
      subst r_3
      refine zv_top (y := (bs * 343)) (by omega) ?_
      refine lv_aload_n hx hb dX2_lengthByTrying_32 rfl (lv_at hl 0 rfl) ?_
      refine va_get (D := D) (ci := 2) (v := .int (iI P)) (C := RX2) (T := TX2) (N := 7) hx hb hts uX2 hown hK.1 hP 0 rfl rfl 5 (by decide) (hts _ q_162) (fun _ h9 => h9) rfl dX2_lengthByTrying_33 ?_
      refine zv_iconst hx hb dX2_lengthByTrying_36 ?_
      refine lv_iload_n hx hb dX2_lengthByTrying_37 rfl (lv_at hl 1 rfl) ?_
      refine zc_S (As := [.ref fl, .int (iI (bs * 343)), .int (iI P), .int (iI 0), .int (iI k)]) (rest := []) (ws := [(tt, .inr (2, [.ref fl, .int (iI lim), .ref s1, .ref s2, .int (iI bs), .int (iI P), .int (iI sm)])), (fl, .inr (0, [.int (iI C), .int (iI R), .ref pn, .int (iI np)])), (pn, .inl (cI, 49, .inl (aI gn))), (s1, .inr (1, [.ref d1, .ref r1, .int (iI c1)])), (d1, .inl (cI, 16807, .inl (aI g1)))]) (n := 5) hx hb (hml.trans hl.1.symm) hts hown hK hP (c_X2_fewestByTrying l D cI cJ fl pn C R np gn N hF 10 (bs * 343) P 0 k (Or.inr hbg.pl) hPg.pl (by omega) (by omega) (by omega) (by omega)) (gd_S q_438 q_439 q_1 q_440) (by decide +kernel) rfl ⟨Nat.le_of_ble_eq_true rfl, Nat.le_of_ble_eq_true rfl⟩ ⟨Nat.le_of_ble_eq_true rfl, Nat.le_of_ble_eq_true rfl⟩ [1, 2] rfl rfl (Nat.le_of_ble_eq_true rfl) dX2_lengthByTrying_38 (fun r_4 hr_4 => ?_)
      have hfw := hFW k _ (by omega) hr_4
      have hfr := hr_4.1
      have hfs := hr_4.2.2.2
      refine lv_istore_n (lv' := [(2, .int (iI r_4)), (0, .ref tt), (1, .int (iI k))]) hx hb dX2_lengthByTrying_41 rfl hl (by decide) rfl (fun ls hl => ?_)
      refine lv_iload_n hx hb dX2_lengthByTrying_42 rfl (lv_at hl 0 rfl) ?_
      refine lv_iload_n hx hb dX2_lengthByTrying_43 rfl (lv_at hl 2 rfl) ?_
      refine zv_icmp_le hx hb dX2_lengthByTrying_44 (tgt := 51) (by decide) ⟨by omega, by omega⟩ ⟨by omega, by omega⟩ (fun c_5 => ?_) (fun c_5 => ?_)
      · refine lv_iload_n hx hb dX2_lengthByTrying_51 rfl (lv_at hl 0 rfl) ?_
        exact vx_ret (MM_iret (()) hx hb hr hlk hP hD hS (Nat.le_of_ble_eq_true rfl) (Nat.le_of_ble_eq_true rfl) dX2_lengthByTrying_52 (by omega))
      · refine zv_iconst hx hb dX2_lengthByTrying_47 ?_
        refine lv_goto (tgt := 52) hx hb dX2_lengthByTrying_48 (by decide) ?_
        exact vx_ret (MM_iret (()) hx hb hr hlk hP hD hS (Nat.le_of_ble_eq_true rfl) (Nat.le_of_ble_eq_true rfl) dX2_lengthByTrying_52 (by omega))
    · exact zx_T hx hb hl0 hown hts xt_IA (List.mem_of_getElem? (i := 7) rfl) hE (()) hP hD hS (⟨rfl, by omega⟩) (hml.trans hl.1.symm) dX2_lengthByTrying_10 dX2_lengthByTrying_13 dX2_lengthByTrying_14 dX2_lengthByTrying_16 dX2_lengthByTrying_19 hout (Nat.le_of_ble_eq_true rfl) (Nat.le_of_ble_eq_true rfl) (Nat.le_of_ble_eq_true rfl) (Nat.le_of_ble_eq_true rfl) hlk (Nat.le_of_ble_eq_true rfl) (Nat.le_of_ble_eq_true rfl)
set_option maxRecDepth 100000 in
set_option maxHeartbeats 4000000 in
theorem c_X2_cableAt (l : Launch) (hl0 : l.stackTraces = false) (D : va_G) (cI cJ : ClassId) (tt fl s1 s2 pn d1 r1 : Nat) (lim bs P sm C R np c1 : Int) (gn g1 : Nat → Int) (N L : Int → Int) (k : Int) (hF : FlOK C R np N gn) (hL : LenOK L g1) (hlm : 1 ≤ lim ∧ lim ≤ 60) (hP0 : 0 ≤ P ∧ P < 16807) (hcb : CbOK C R N L P) (hk1 : -2147483648 ≤ k) (hk2 : k < 2147483648) (sz : Nat) : VMi l yX2_cableAt (.code yX2_cableAt cX2_cableAt 3 (some .int)) 8 1 6 [.ref tt, .int (iI k)] D cI cJ [(tt, .inr (2, [.ref fl, .int (iI lim), .ref s1, .ref s2, .int (iI bs), .int (iI P), .int (iI sm)])), (fl, .inr (0, [.int (iI C), .int (iI R), .ref pn, .int (iI np)])), (pn, .inl (cI, 49, .inl (aI gn))), (s1, .inr (1, [.ref d1, .ref r1, .int (iI c1)])), (d1, .inl (cI, 16807, .inl (aI g1)))] sz (fun (r : Int) (u : Unit) => (0 ≤ k ∧ k ≤ L P) ∧ r = 10 * (alZ C R N L P k.toNat / 343 / 7) + alZ C R N L P k.toNat / 343 % 7) (fun u : Unit => [(tt, .inr (2, [.ref fl, .int (iI lim), .ref s1, .ref s2, .int (iI bs), .int (iI P), .int (iI sm)])), (fl, .inr (0, [.int (iI C), .int (iI R), .ref pn, .int (iI np)])), (pn, .inl (cI, 49, .inl (aI gn))), (s1, .inr (1, [.ref d1, .ref r1, .int (iI c1)])), (d1, .inl (cI, 16807, .inl (aI g1)))]) (fun (E : String) (u : Unit) => E = eIO ∧ ¬ (0 ≤ k ∧ k ≤ L P)) := by
  obtain ⟨hC1, hC2, hR1, hR2, hp1, hp2, -, -⟩ := id hF
  obtain ⟨hP1, hP2⟩ := id hP0
  have hLb := hL.b P
  refine VM_of (Qc := fun A => QMi D A (fun (r : Int) (u : Unit) => (0 ≤ k ∧ k ≤ L P) ∧ r = 10 * (alZ C R N L P k.toNat / 343 / 7) + alZ C R N L P k.toNat / 343 % 7) (fun u : Unit => [(tt, .inr (2, [.ref fl, .int (iI lim), .ref s1, .ref s2, .int (iI bs), .int (iI P), .int (iI sm)])), (fl, .inr (0, [.int (iI C), .int (iI R), .ref pn, .int (iI np)])), (pn, .inl (cI, 49, .inl (aI gn))), (s1, .inr (1, [.ref d1, .ref r1, .int (iI c1)])), (d1, .inl (cI, 16807, .inl (aI g1)))])) (XC := fun A => XQ D A (fun u : Unit => [(tt, .inr (2, [.ref fl, .int (iI lim), .ref s1, .ref s2, .int (iI bs), .int (iI P), .int (iI sm)])), (fl, .inr (0, [.int (iI C), .int (iI R), .ref pn, .int (iI np)])), (pn, .inl (cI, 49, .inl (aI gn))), (s1, .inr (1, [.ref d1, .ref r1, .int (iI c1)])), (d1, .inl (cI, 16807, .inl (aI g1)))]) (fun (E : String) (u : Unit) => E = eIO ∧ ¬ (0 ≤ k ∧ k ≤ L P))) (by decide) rfl (Nat.le_of_ble_eq_true rfl) (fun p e s m below meth c ls A hx hb hr hts hown hlk hml hin hK hP hD hA hS hl hE hout => ?_)
  have hl : lv_has ls 3 [(0, .ref tt), (1, .int (iI k))] := hl
  refine lv_iload_n hx hb dX2_cableAt_0 rfl (lv_at hl 1 rfl) ?_
  refine zv_if_lt hx hb dX2_cableAt_1 (tgt := 12) (by decide) ⟨by omega, by omega⟩ (fun c_1 => ?_) (fun c_1 => ?_)
  · exact zx_T hx hb hl0 hown hts xt_IO (List.mem_of_getElem? (i := 8) rfl) hE (()) hP hD hS (⟨rfl, by omega⟩) (hml.trans hl.1.symm) dX2_cableAt_12 dX2_cableAt_15 dX2_cableAt_16 dX2_cableAt_18 dX2_cableAt_21 hout (Nat.le_of_ble_eq_true rfl) (Nat.le_of_ble_eq_true rfl) (Nat.le_of_ble_eq_true rfl) (Nat.le_of_ble_eq_true rfl) hlk (Nat.le_of_ble_eq_true rfl) (Nat.le_of_ble_eq_true rfl)
  · refine lv_iload_n hx hb dX2_cableAt_4 rfl (lv_at hl 1 rfl) ?_
    refine lv_aload_n hx hb dX2_cableAt_5 rfl (lv_at hl 0 rfl) ?_
    refine zc_V (As := []) (rest := [.int (iI k)]) (ws := [(tt, .inr (2, [.ref fl, .int (iI lim), .ref s1, .ref s2, .int (iI bs), .int (iI P), .int (iI sm)])), (fl, .inr (0, [.int (iI C), .int (iI R), .ref pn, .int (iI np)])), (pn, .inl (cI, 49, .inl (aI gn))), (s1, .inr (1, [.ref d1, .ref r1, .int (iI c1)])), (d1, .inl (cI, 16807, .inl (aI g1)))]) (n := 0) hx hb (hml.trans hl.1.symm) hts hown hK hP (c_X2_length l D cI cJ tt fl s1 s2 pn d1 r1 lim bs P sm C R np c1 gn g1 N L hF hL hlm hP0) (gd_V q_207 q_199 q_200 q_1 q_201) (by decide +kernel) rfl ⟨Nat.le_of_ble_eq_true rfl, Nat.le_of_ble_eq_true rfl⟩ ⟨Nat.le_of_ble_eq_true rfl, Nat.le_of_ble_eq_true rfl⟩ [0, 1, 2, 3, 4] rfl 0 (ci := 2) rfl rfl rfl rfl (Nat.le_of_ble_eq_true rfl) dX2_cableAt_6 (fun r_2 hr_2 => ?_)
    subst r_2
    refine zv_icmp_le hx hb dX2_cableAt_9 (tgt := 22) (by decide) ⟨by omega, by omega⟩ ⟨by omega, by omega⟩ (fun c_3 => ?_) (fun c_3 => ?_)
    · obtain ⟨hg0, hg1, -⟩ := id (hcb.2.1 k.toNat (by omega)).2
      refine lv_aload_n hx hb dX2_cableAt_22 rfl (lv_at hl 0 rfl) ?_
      refine lv_iload_n hx hb dX2_cableAt_23 rfl (lv_at hl 1 rfl) ?_
      refine zc_V (As := [.int (iI k)]) (rest := []) (ws := [(tt, .inr (2, [.ref fl, .int (iI lim), .ref s1, .ref s2, .int (iI bs), .int (iI P), .int (iI sm)])), (fl, .inr (0, [.int (iI C), .int (iI R), .ref pn, .int (iI np)])), (pn, .inl (cI, 49, .inl (aI gn))), (s1, .inr (1, [.ref d1, .ref r1, .int (iI c1)])), (d1, .inl (cI, 16807, .inl (aI g1)))]) (n := 1) hx hb (hml.trans hl.1.symm) hts hown hK hP (c_X2_alongCable l D cI cJ tt fl s1 s2 pn d1 r1 lim bs P sm C R np c1 gn g1 N L k hF hL hlm (fun j hj => hcb.2.2 j (by omega)) (by omega) (by omega)) (gd_V q_417 q_419 q_1013 q_1 q_420) (by decide +kernel) rfl ⟨Nat.le_of_ble_eq_true rfl, Nat.le_of_ble_eq_true rfl⟩ ⟨Nat.le_of_ble_eq_true rfl, Nat.le_of_ble_eq_true rfl⟩ [0, 1, 2, 3, 4] rfl 0 (ci := 2) rfl rfl rfl rfl (Nat.le_of_ble_eq_true rfl) dX2_cableAt_24 (fun r_4 hr_4 => ?_)
      subst r_4
      refine zc_S (As := [.int (iI (alZ C R N L P k.toNat))]) (rest := []) (ws := [(tt, .inr (2, [.ref fl, .int (iI lim), .ref s1, .ref s2, .int (iI bs), .int (iI P), .int (iI sm)])), (fl, .inr (0, [.int (iI C), .int (iI R), .ref pn, .int (iI np)])), (pn, .inl (cI, 49, .inl (aI gn))), (s1, .inr (1, [.ref d1, .ref r1, .int (iI c1)])), (d1, .inl (cI, 16807, .inl (aI g1)))]) (n := 1) hx hb (hml.trans hl.1.symm) hts hown hK hP (c_X2_squareOf l D cI cJ (alZ C R N L P k.toNat) (by omega) (by omega)) (gd_S q_183 q_102 q_1 q_103) (by decide +kernel) rfl ⟨Nat.le_of_ble_eq_true rfl, Nat.le_of_ble_eq_true rfl⟩ ⟨Nat.le_of_ble_eq_true rfl, Nat.le_of_ble_eq_true rfl⟩ [] rfl rfl (Nat.le_of_ble_eq_true rfl) dX2_cableAt_27 (fun r_5 hr_5 => ?_)
      subst r_5
      refine lv_istore_n (lv' := [(2, .int (iI ((alZ C R N L P k.toNat) / 343))), (0, .ref tt), (1, .int (iI k))]) hx hb dX2_cableAt_30 rfl hl (by decide) rfl (fun ls hl => ?_)
      refine zv_bipush hx hb dX2_cableAt_31 (by decide) ?_
      refine lv_iload_n hx hb dX2_cableAt_33 rfl (lv_at hl 0 rfl) ?_
      refine zc_S (As := [.int (iI ((alZ C R N L P k.toNat) / 343))]) (rest := [.int (iI 10)]) (ws := [(tt, .inr (2, [.ref fl, .int (iI lim), .ref s1, .ref s2, .int (iI bs), .int (iI P), .int (iI sm)])), (fl, .inr (0, [.int (iI C), .int (iI R), .ref pn, .int (iI np)])), (pn, .inl (cI, 49, .inl (aI gn))), (s1, .inr (1, [.ref d1, .ref r1, .int (iI c1)])), (d1, .inl (cI, 16807, .inl (aI g1)))]) (n := 1) hx hb (hml.trans hl.1.symm) hts hown hK hP (c_X2_columnOf l D cI cJ ((alZ C R N L P k.toNat) / 343) (by omega) (by omega)) (gd_S q_184 q_105 q_1 q_106) (by decide +kernel) rfl ⟨Nat.le_of_ble_eq_true rfl, Nat.le_of_ble_eq_true rfl⟩ ⟨Nat.le_of_ble_eq_true rfl, Nat.le_of_ble_eq_true rfl⟩ [] rfl rfl (Nat.le_of_ble_eq_true rfl) dX2_cableAt_34 (fun r_6 hr_6 => ?_)
      subst r_6
      refine zv_imul hx hb dX2_cableAt_37 ?_
      refine lv_iload_n hx hb dX2_cableAt_38 rfl (lv_at hl 0 rfl) ?_
      refine zc_S (As := [.int (iI ((alZ C R N L P k.toNat) / 343))]) (rest := [.int (iI (10 * (((alZ C R N L P k.toNat) / 343) / 7)))]) (ws := [(tt, .inr (2, [.ref fl, .int (iI lim), .ref s1, .ref s2, .int (iI bs), .int (iI P), .int (iI sm)])), (fl, .inr (0, [.int (iI C), .int (iI R), .ref pn, .int (iI np)])), (pn, .inl (cI, 49, .inl (aI gn))), (s1, .inr (1, [.ref d1, .ref r1, .int (iI c1)])), (d1, .inl (cI, 16807, .inl (aI g1)))]) (n := 1) hx hb (hml.trans hl.1.symm) hts hown hK hP (c_X2_rowOf l D cI cJ ((alZ C R N L P k.toNat) / 343) (by omega) (by omega)) (gd_S q_189 q_108 q_1 q_109) (by decide +kernel) rfl ⟨Nat.le_of_ble_eq_true rfl, Nat.le_of_ble_eq_true rfl⟩ ⟨Nat.le_of_ble_eq_true rfl, Nat.le_of_ble_eq_true rfl⟩ [] rfl rfl (Nat.le_of_ble_eq_true rfl) dX2_cableAt_39 (fun r_7 hr_7 => ?_)
      subst r_7
      refine zv_iadd hx hb dX2_cableAt_42 ?_
      exact vx_ret (MM_iret (()) hx hb hr hlk hP hD hS (Nat.le_of_ble_eq_true rfl) (Nat.le_of_ble_eq_true rfl) dX2_cableAt_43 (⟨by omega, rfl⟩))
    · exact zx_T hx hb hl0 hown hts xt_IO (List.mem_of_getElem? (i := 8) rfl) hE (()) hP hD hS (⟨rfl, by omega⟩) (hml.trans hl.1.symm) dX2_cableAt_12 dX2_cableAt_15 dX2_cableAt_16 dX2_cableAt_18 dX2_cableAt_21 hout (Nat.le_of_ble_eq_true rfl) (Nat.le_of_ble_eq_true rfl) (Nat.le_of_ble_eq_true rfl) (Nat.le_of_ble_eq_true rfl) hlk (Nat.le_of_ble_eq_true rfl) (Nat.le_of_ble_eq_true rfl)
set_option maxRecDepth 100000 in
set_option maxHeartbeats 4000000 in
theorem c_X2_least (l : Launch) (hl0 : l.stackTraces = false) (D : va_G) (cI cJ : ClassId) (tt fl s1 s2 pn d1 r1 : Nat) (lim bs P sm C R np c1 : Int) (gn g1 : Nat → Int) (N L : Int → Int) (a b : Int) (hF : FlOK C R np N gn) (hL : LenOK L g1) (hlm : 1 ≤ lim ∧ lim ≤ 60) (ha1 : -2147483648 ≤ a) (ha2 : a < 2147483648) (hb1 : -2147483648 ≤ b) (hb2 : b < 2147483648) (sz : Nat) : VMi l yX2_least (.code yX2_least cX2_least 3 (some .int)) 10 1 6 [.ref tt, .int (iI a), .int (iI b)] D cI cJ [(tt, .inr (2, [.ref fl, .int (iI lim), .ref s1, .ref s2, .int (iI bs), .int (iI P), .int (iI sm)])), (fl, .inr (0, [.int (iI C), .int (iI R), .ref pn, .int (iI np)])), (pn, .inl (cI, 49, .inl (aI gn))), (s1, .inr (1, [.ref d1, .ref r1, .int (iI c1)])), (d1, .inl (cI, 16807, .inl (aI g1)))] sz (fun (r : Int) (u : Unit) => (0 ≤ a ∧ a < C ∧ 0 ≤ b ∧ b < R) ∧ r = lsZ L (a * 7 + b)) (fun u : Unit => [(tt, .inr (2, [.ref fl, .int (iI lim), .ref s1, .ref s2, .int (iI bs), .int (iI P), .int (iI sm)])), (fl, .inr (0, [.int (iI C), .int (iI R), .ref pn, .int (iI np)])), (pn, .inl (cI, 49, .inl (aI gn))), (s1, .inr (1, [.ref d1, .ref r1, .int (iI c1)])), (d1, .inl (cI, 16807, .inl (aI g1)))]) (fun (E : String) (u : Unit) => E = eIO ∧ ¬ (0 ≤ a ∧ a < C ∧ 0 ≤ b ∧ b < R)) := by
  obtain ⟨hC1, hC2, hR1, hR2, hp1, hp2, -, -⟩ := id hF
  refine VM_of (Qc := fun A => QMi D A (fun (r : Int) (u : Unit) => (0 ≤ a ∧ a < C ∧ 0 ≤ b ∧ b < R) ∧ r = lsZ L (a * 7 + b)) (fun u : Unit => [(tt, .inr (2, [.ref fl, .int (iI lim), .ref s1, .ref s2, .int (iI bs), .int (iI P), .int (iI sm)])), (fl, .inr (0, [.int (iI C), .int (iI R), .ref pn, .int (iI np)])), (pn, .inl (cI, 49, .inl (aI gn))), (s1, .inr (1, [.ref d1, .ref r1, .int (iI c1)])), (d1, .inl (cI, 16807, .inl (aI g1)))])) (XC := fun A => XQ D A (fun u : Unit => [(tt, .inr (2, [.ref fl, .int (iI lim), .ref s1, .ref s2, .int (iI bs), .int (iI P), .int (iI sm)])), (fl, .inr (0, [.int (iI C), .int (iI R), .ref pn, .int (iI np)])), (pn, .inl (cI, 49, .inl (aI gn))), (s1, .inr (1, [.ref d1, .ref r1, .int (iI c1)])), (d1, .inl (cI, 16807, .inl (aI g1)))]) (fun (E : String) (u : Unit) => E = eIO ∧ ¬ (0 ≤ a ∧ a < C ∧ 0 ≤ b ∧ b < R))) (by decide) rfl (Nat.le_of_ble_eq_true rfl) (fun p e s m below meth c ls A hx hb hr hts hown hlk hml hin hK hP hD hA hS hl hE hout => ?_)
  have hl : lv_has ls 3 [(0, .ref tt), (1, .int (iI a)), (2, .int (iI b))] := hl
  refine lv_aload_n hx hb dX2_least_0 rfl (lv_at hl 0 rfl) ?_
  refine lv_iload_n hx hb dX2_least_1 rfl (lv_at hl 1 rfl) ?_
  refine lv_iload_n hx hb dX2_least_2 rfl (lv_at hl 2 rfl) ?_
  refine zx_Vv (As := [.int (iI a), .int (iI b)]) (rest := []) (ws := [(tt, .inr (2, [.ref fl, .int (iI lim), .ref s1, .ref s2, .int (iI bs), .int (iI P), .int (iI sm)])), (fl, .inr (0, [.int (iI C), .int (iI R), .ref pn, .int (iI np)])), (pn, .inl (cI, 49, .inl (aI gn))), (s1, .inr (1, [.ref d1, .ref r1, .int (iI c1)])), (d1, .inl (cI, 16807, .inl (aI g1)))]) (wr := [(s1, .inr (1, [.ref d1, .ref r1, .int (iI c1)])), (d1, .inl (cI, 16807, .inl (aI g1)))]) (n := 2) hx hb (hml.trans hl.1.symm) hts hown hK hP hD hS hA hE (c_X2_requireSquare l hl0 D cI cJ tt fl s1 s2 pn lim bs P sm C R np gn N a b hF (by omega) (by omega) (by omega) (by omega) _) (gd_V q_244 q_246 q_1009 q_1 q_247) (by decide +kernel) rfl ⟨Nat.le_of_ble_eq_true rfl, Nat.le_of_ble_eq_true rfl⟩ ⟨Nat.le_of_ble_eq_true rfl, Nat.le_of_ble_eq_true rfl⟩ [0, 1, 2] [3, 4] rfl rfl (by decide) (by decide) (by decide) 0 (ci := 2) rfl rfl rfl rfl (Nat.le_of_ble_eq_true rfl) dX2_least_3 (fun E9 ce9 q9 u H locs hpx hP hD hS hce hcv hcl => ?_) (fun u H locs hq_1 hP hD hS => ?_)
  · have hP := hP.sub (ws' := [(tt, .inr (2, [.ref fl, .int (iI lim), .ref s1, .ref s2, .int (iI bs), .int (iI P), .int (iI sm)])), (fl, .inr (0, [.int (iI C), .int (iI R), .ref pn, .int (iI np)])), (pn, .inl (cI, 49, .inl (aI gn))), (s1, .inr (1, [.ref d1, .ref r1, .int (iI c1)])), (d1, .inl (cI, 16807, .inl (aI g1)))]) [2, 3, 4, 0, 1] rfl
    have hD := hD.sub (ws' := [(tt, .inr (2, [.ref fl, .int (iI lim), .ref s1, .ref s2, .int (iI bs), .int (iI P), .int (iI sm)])), (fl, .inr (0, [.int (iI C), .int (iI R), .ref pn, .int (iI np)])), (pn, .inl (cI, 49, .inl (aI gn))), (s1, .inr (1, [.ref d1, .ref r1, .int (iI c1)])), (d1, .inl (cI, 16807, .inl (aI g1)))]) [2, 3, 4, 0, 1] (by decide) rfl
    try dsimp only at hpx
    exact zx_O (()) hP hD hS (hpx) hout hlk hce hcv hcl (Nat.le_of_ble_eq_true rfl) (Nat.le_of_ble_eq_true rfl)
  have hP := hP.sub (ws' := [(tt, .inr (2, [.ref fl, .int (iI lim), .ref s1, .ref s2, .int (iI bs), .int (iI P), .int (iI sm)])), (fl, .inr (0, [.int (iI C), .int (iI R), .ref pn, .int (iI np)])), (pn, .inl (cI, 49, .inl (aI gn))), (s1, .inr (1, [.ref d1, .ref r1, .int (iI c1)])), (d1, .inl (cI, 16807, .inl (aI g1)))]) [2, 3, 4, 0, 1] rfl
  have hD := hD.sub (ws' := [(tt, .inr (2, [.ref fl, .int (iI lim), .ref s1, .ref s2, .int (iI bs), .int (iI P), .int (iI sm)])), (fl, .inr (0, [.int (iI C), .int (iI R), .ref pn, .int (iI np)])), (pn, .inl (cI, 49, .inl (aI gn))), (s1, .inr (1, [.ref d1, .ref r1, .int (iI c1)])), (d1, .inl (cI, 16807, .inl (aI g1)))]) [2, 3, 4, 0, 1] (by decide) rfl
  try dsimp only at hq_1
  have hsq := hq_1
  refine lv_aload_n hx hb dX2_least_6 rfl (lv_at hl 0 rfl) ?_
  refine lv_iload_n hx hb dX2_least_7 rfl (lv_at hl 1 rfl) ?_
  refine lv_iload_n hx hb dX2_least_8 rfl (lv_at hl 2 rfl) ?_
  refine zc_S (As := [.int (iI a), .int (iI b)]) (rest := [.ref tt]) (ws := [(tt, .inr (2, [.ref fl, .int (iI lim), .ref s1, .ref s2, .int (iI bs), .int (iI P), .int (iI sm)])), (fl, .inr (0, [.int (iI C), .int (iI R), .ref pn, .int (iI np)])), (pn, .inl (cI, 49, .inl (aI gn))), (s1, .inr (1, [.ref d1, .ref r1, .int (iI c1)])), (d1, .inl (cI, 16807, .inl (aI g1)))]) (n := 2) hx hb (hml.trans hl.1.symm) hts hown hK hP (c_X2_squareAt l D cI cJ a b) (gd_S q_70 q_71 q_1 q_72) (by decide +kernel) rfl ⟨Nat.le_of_ble_eq_true rfl, Nat.le_of_ble_eq_true rfl⟩ ⟨Nat.le_of_ble_eq_true rfl, Nat.le_of_ble_eq_true rfl⟩ [] rfl rfl (Nat.le_of_ble_eq_true rfl) dX2_least_9 (fun r_3 hr_3 => ?_)
  subst r_3
  refine zc_V (As := [.int (iI (a * 7 + b))]) (rest := []) (ws := [(tt, .inr (2, [.ref fl, .int (iI lim), .ref s1, .ref s2, .int (iI bs), .int (iI P), .int (iI sm)])), (fl, .inr (0, [.int (iI C), .int (iI R), .ref pn, .int (iI np)])), (pn, .inl (cI, 49, .inl (aI gn))), (s1, .inr (1, [.ref d1, .ref r1, .int (iI c1)])), (d1, .inl (cI, 16807, .inl (aI g1)))]) (n := 1) hx hb (hml.trans hl.1.symm) hts hown hK hP (c_X2_leastLengthOf l D cI cJ tt fl s1 s2 pn d1 r1 lim bs P sm C R np c1 gn g1 N L (a * 7 + b) hF hL hlm (by omega) (by omega)) (gd_V q_224 q_226 q_1007 q_1 q_227) (by decide +kernel) rfl ⟨Nat.le_of_ble_eq_true rfl, Nat.le_of_ble_eq_true rfl⟩ ⟨Nat.le_of_ble_eq_true rfl, Nat.le_of_ble_eq_true rfl⟩ [0, 1, 2, 3, 4] rfl 0 (ci := 2) rfl rfl rfl rfl (Nat.le_of_ble_eq_true rfl) dX2_least_12 (fun r_4 hr_4 => ?_)
  subst r_4
  exact vx_ret (MM_iret (()) hx hb hr hlk hP hD hS (Nat.le_of_ble_eq_true rfl) (Nat.le_of_ble_eq_true rfl) dX2_least_15 (⟨hsq, rfl⟩))
set_option maxRecDepth 100000 in
set_option maxHeartbeats 4000000 in
theorem c_X2_missing (l : Launch) (hl0 : l.stackTraces = false) (D : va_G) (cI cJ : ClassId) (tt fl s1 s2 pn d1 r1 : Nat) (lim bs P sm C R np c1 : Int) (gn g1 : Nat → Int) (N L : Int → Int) (a b : Int) (hF : FlOK C R np N gn) (hL : LenOK L g1) (hlm : 1 ≤ lim ∧ lim ≤ 60) (ha1 : -2147483648 ≤ a) (ha2 : a < 2147483648) (hb1 : -2147483648 ≤ b) (hb2 : b < 2147483648) (sz : Nat) : VMi l yX2_missing (.code yX2_missing cX2_missing 4 (some .int)) 10 1 6 [.ref tt, .int (iI a), .int (iI b)] D cI cJ [(tt, .inr (2, [.ref fl, .int (iI lim), .ref s1, .ref s2, .int (iI bs), .int (iI P), .int (iI sm)])), (fl, .inr (0, [.int (iI C), .int (iI R), .ref pn, .int (iI np)])), (pn, .inl (cI, 49, .inl (aI gn))), (s1, .inr (1, [.ref d1, .ref r1, .int (iI c1)])), (d1, .inl (cI, 16807, .inl (aI g1)))] sz (fun (r : Int) (u : Unit) => (0 ≤ a ∧ a < C ∧ 0 ≤ b ∧ b < R) ∧ ((lsZ L (a * 7 + b) = -1 ∧ r = -1) ∨ (¬ lsZ L (a * 7 + b) = -1 ∧ ((lim < lsZ L (a * 7 + b) ∧ r = lsZ L (a * 7 + b) - lim) ∨ (lsZ L (a * 7 + b) ≤ lim ∧ r = 0))))) (fun u : Unit => [(tt, .inr (2, [.ref fl, .int (iI lim), .ref s1, .ref s2, .int (iI bs), .int (iI P), .int (iI sm)])), (fl, .inr (0, [.int (iI C), .int (iI R), .ref pn, .int (iI np)])), (pn, .inl (cI, 49, .inl (aI gn))), (s1, .inr (1, [.ref d1, .ref r1, .int (iI c1)])), (d1, .inl (cI, 16807, .inl (aI g1)))]) (fun (E : String) (u : Unit) => E = eIO ∧ ¬ (0 ≤ a ∧ a < C ∧ 0 ≤ b ∧ b < R)) := by
  obtain ⟨hC1, hC2, hR1, hR2, hp1, hp2, -, -⟩ := id hF
  have hlb := lsZ_b hL (a * 7 + b)
  refine VM_of (Qc := fun A => QMi D A (fun (r : Int) (u : Unit) => (0 ≤ a ∧ a < C ∧ 0 ≤ b ∧ b < R) ∧ ((lsZ L (a * 7 + b) = -1 ∧ r = -1) ∨ (¬ lsZ L (a * 7 + b) = -1 ∧ ((lim < lsZ L (a * 7 + b) ∧ r = lsZ L (a * 7 + b) - lim) ∨ (lsZ L (a * 7 + b) ≤ lim ∧ r = 0))))) (fun u : Unit => [(tt, .inr (2, [.ref fl, .int (iI lim), .ref s1, .ref s2, .int (iI bs), .int (iI P), .int (iI sm)])), (fl, .inr (0, [.int (iI C), .int (iI R), .ref pn, .int (iI np)])), (pn, .inl (cI, 49, .inl (aI gn))), (s1, .inr (1, [.ref d1, .ref r1, .int (iI c1)])), (d1, .inl (cI, 16807, .inl (aI g1)))])) (XC := fun A => XQ D A (fun u : Unit => [(tt, .inr (2, [.ref fl, .int (iI lim), .ref s1, .ref s2, .int (iI bs), .int (iI P), .int (iI sm)])), (fl, .inr (0, [.int (iI C), .int (iI R), .ref pn, .int (iI np)])), (pn, .inl (cI, 49, .inl (aI gn))), (s1, .inr (1, [.ref d1, .ref r1, .int (iI c1)])), (d1, .inl (cI, 16807, .inl (aI g1)))]) (fun (E : String) (u : Unit) => E = eIO ∧ ¬ (0 ≤ a ∧ a < C ∧ 0 ≤ b ∧ b < R))) (by decide) rfl (Nat.le_of_ble_eq_true rfl) (fun p e s m below meth c ls A hx hb hr hts hown hlk hml hin hK hP hD hA hS hl hE hout => ?_)
  have hl : lv_has ls 4 [(0, .ref tt), (1, .int (iI a)), (2, .int (iI b))] := hl
  refine lv_aload_n hx hb dX2_missing_0 rfl (lv_at hl 0 rfl) ?_
  refine lv_iload_n hx hb dX2_missing_1 rfl (lv_at hl 1 rfl) ?_
  refine lv_iload_n hx hb dX2_missing_2 rfl (lv_at hl 2 rfl) ?_
  refine zx_Vv (As := [.int (iI a), .int (iI b)]) (rest := []) (ws := [(tt, .inr (2, [.ref fl, .int (iI lim), .ref s1, .ref s2, .int (iI bs), .int (iI P), .int (iI sm)])), (fl, .inr (0, [.int (iI C), .int (iI R), .ref pn, .int (iI np)])), (pn, .inl (cI, 49, .inl (aI gn))), (s1, .inr (1, [.ref d1, .ref r1, .int (iI c1)])), (d1, .inl (cI, 16807, .inl (aI g1)))]) (wr := [(s1, .inr (1, [.ref d1, .ref r1, .int (iI c1)])), (d1, .inl (cI, 16807, .inl (aI g1)))]) (n := 2) hx hb (hml.trans hl.1.symm) hts hown hK hP hD hS hA hE (c_X2_requireSquare l hl0 D cI cJ tt fl s1 s2 pn lim bs P sm C R np gn N a b hF (by omega) (by omega) (by omega) (by omega) _) (gd_V q_244 q_246 q_1009 q_1 q_247) (by decide +kernel) rfl ⟨Nat.le_of_ble_eq_true rfl, Nat.le_of_ble_eq_true rfl⟩ ⟨Nat.le_of_ble_eq_true rfl, Nat.le_of_ble_eq_true rfl⟩ [0, 1, 2] [3, 4] rfl rfl (by decide) (by decide) (by decide) 0 (ci := 2) rfl rfl rfl rfl (Nat.le_of_ble_eq_true rfl) dX2_missing_3 (fun E9 ce9 q9 u H locs hpx hP hD hS hce hcv hcl => ?_) (fun u H locs hq_1 hP hD hS => ?_)
  · have hP := hP.sub (ws' := [(tt, .inr (2, [.ref fl, .int (iI lim), .ref s1, .ref s2, .int (iI bs), .int (iI P), .int (iI sm)])), (fl, .inr (0, [.int (iI C), .int (iI R), .ref pn, .int (iI np)])), (pn, .inl (cI, 49, .inl (aI gn))), (s1, .inr (1, [.ref d1, .ref r1, .int (iI c1)])), (d1, .inl (cI, 16807, .inl (aI g1)))]) [2, 3, 4, 0, 1] rfl
    have hD := hD.sub (ws' := [(tt, .inr (2, [.ref fl, .int (iI lim), .ref s1, .ref s2, .int (iI bs), .int (iI P), .int (iI sm)])), (fl, .inr (0, [.int (iI C), .int (iI R), .ref pn, .int (iI np)])), (pn, .inl (cI, 49, .inl (aI gn))), (s1, .inr (1, [.ref d1, .ref r1, .int (iI c1)])), (d1, .inl (cI, 16807, .inl (aI g1)))]) [2, 3, 4, 0, 1] (by decide) rfl
    try dsimp only at hpx
    exact zx_O (()) hP hD hS (hpx) hout hlk hce hcv hcl (Nat.le_of_ble_eq_true rfl) (Nat.le_of_ble_eq_true rfl)
  have hP := hP.sub (ws' := [(tt, .inr (2, [.ref fl, .int (iI lim), .ref s1, .ref s2, .int (iI bs), .int (iI P), .int (iI sm)])), (fl, .inr (0, [.int (iI C), .int (iI R), .ref pn, .int (iI np)])), (pn, .inl (cI, 49, .inl (aI gn))), (s1, .inr (1, [.ref d1, .ref r1, .int (iI c1)])), (d1, .inl (cI, 16807, .inl (aI g1)))]) [2, 3, 4, 0, 1] rfl
  have hD := hD.sub (ws' := [(tt, .inr (2, [.ref fl, .int (iI lim), .ref s1, .ref s2, .int (iI bs), .int (iI P), .int (iI sm)])), (fl, .inr (0, [.int (iI C), .int (iI R), .ref pn, .int (iI np)])), (pn, .inl (cI, 49, .inl (aI gn))), (s1, .inr (1, [.ref d1, .ref r1, .int (iI c1)])), (d1, .inl (cI, 16807, .inl (aI g1)))]) [2, 3, 4, 0, 1] (by decide) rfl
  try dsimp only at hq_1
  have hsq := hq_1
  refine lv_aload_n hx hb dX2_missing_6 rfl (lv_at hl 0 rfl) ?_
  refine lv_iload_n hx hb dX2_missing_7 rfl (lv_at hl 1 rfl) ?_
  refine lv_iload_n hx hb dX2_missing_8 rfl (lv_at hl 2 rfl) ?_
  refine zc_S (As := [.int (iI a), .int (iI b)]) (rest := [.ref tt]) (ws := [(tt, .inr (2, [.ref fl, .int (iI lim), .ref s1, .ref s2, .int (iI bs), .int (iI P), .int (iI sm)])), (fl, .inr (0, [.int (iI C), .int (iI R), .ref pn, .int (iI np)])), (pn, .inl (cI, 49, .inl (aI gn))), (s1, .inr (1, [.ref d1, .ref r1, .int (iI c1)])), (d1, .inl (cI, 16807, .inl (aI g1)))]) (n := 2) hx hb (hml.trans hl.1.symm) hts hown hK hP (c_X2_squareAt l D cI cJ a b) (gd_S q_70 q_71 q_1 q_72) (by decide +kernel) rfl ⟨Nat.le_of_ble_eq_true rfl, Nat.le_of_ble_eq_true rfl⟩ ⟨Nat.le_of_ble_eq_true rfl, Nat.le_of_ble_eq_true rfl⟩ [] rfl rfl (Nat.le_of_ble_eq_true rfl) dX2_missing_9 (fun r_3 hr_3 => ?_)
  subst r_3
  refine zc_V (As := [.int (iI (a * 7 + b))]) (rest := []) (ws := [(tt, .inr (2, [.ref fl, .int (iI lim), .ref s1, .ref s2, .int (iI bs), .int (iI P), .int (iI sm)])), (fl, .inr (0, [.int (iI C), .int (iI R), .ref pn, .int (iI np)])), (pn, .inl (cI, 49, .inl (aI gn))), (s1, .inr (1, [.ref d1, .ref r1, .int (iI c1)])), (d1, .inl (cI, 16807, .inl (aI g1)))]) (n := 1) hx hb (hml.trans hl.1.symm) hts hown hK hP (c_X2_leastLengthOf l D cI cJ tt fl s1 s2 pn d1 r1 lim bs P sm C R np c1 gn g1 N L (a * 7 + b) hF hL hlm (by omega) (by omega)) (gd_V q_224 q_226 q_1007 q_1 q_227) (by decide +kernel) rfl ⟨Nat.le_of_ble_eq_true rfl, Nat.le_of_ble_eq_true rfl⟩ ⟨Nat.le_of_ble_eq_true rfl, Nat.le_of_ble_eq_true rfl⟩ [0, 1, 2, 3, 4] rfl 0 (ci := 2) rfl rfl rfl rfl (Nat.le_of_ble_eq_true rfl) dX2_missing_12 (fun r_4 hr_4 => ?_)
  subst r_4
  refine lv_istore_n (lv' := [(3, .int (iI (lsZ L (a * 7 + b)))), (0, .ref tt), (1, .int (iI a)), (2, .int (iI b))]) hx hb dX2_missing_15 rfl hl (by decide) rfl (fun ls hl => ?_)
  refine lv_iload_n hx hb dX2_missing_16 rfl (lv_at hl 0 rfl) ?_
  refine zv_iconst hx hb dX2_missing_17 ?_
  refine zv_icmp_ne hx hb dX2_missing_18 (tgt := 25) (by decide) ⟨by omega, by omega⟩ ⟨by omega, by omega⟩ (fun c_5 => ?_) (fun c_5 => ?_)
  · refine zv_iconst hx hb dX2_missing_25 ?_
    refine lv_iload_n hx hb dX2_missing_26 rfl (lv_at hl 0 rfl) ?_
    refine lv_aload_n hx hb dX2_missing_27 rfl (lv_at hl 1 rfl) ?_
    refine va_get (D := D) (ci := 2) (v := .int (iI lim)) (C := RX2) (T := TX2) (N := 7) hx hb hts uX2 hown hK.1 hP 0 rfl rfl 1 (by decide) (hts _ q_158) (fun _ h9 => h9) rfl dX2_missing_28 ?_
    refine zv_isub hx hb dX2_missing_31 ?_
    refine zj_max hx hb (hml.trans hl.1.symm) hown (hts _ q_47) (hts _ q_48) (hts _ q_4) (hts _ q_49) (Nat.le_of_ble_eq_true rfl) (Nat.le_of_ble_eq_true rfl) (Nat.le_of_ble_eq_true rfl) (Nat.le_of_ble_eq_true rfl) ⟨by omega, by omega⟩ ⟨by omega, by omega⟩ dX2_missing_32 ?_
    exact vx_ret (MM_iret (()) hx hb hr hlk hP hD hS (Nat.le_of_ble_eq_true rfl) (Nat.le_of_ble_eq_true rfl) dX2_missing_35 (⟨hsq, by first | omega | (split <;> omega)⟩))
  · refine zv_iconst hx hb dX2_missing_21 ?_
    refine lv_goto (tgt := 35) hx hb dX2_missing_22 (by decide) ?_
    exact vx_ret (MM_iret (()) hx hb hr hlk hP hD hS (Nat.le_of_ble_eq_true rfl) (Nat.le_of_ble_eq_true rfl) dX2_missing_35 (⟨hsq, by first | omega | (split <;> omega)⟩))
set_option maxRecDepth 100000 in
set_option maxHeartbeats 4000000 in
theorem c_X2_words (l : Launch) (hl0 : l.stackTraces = false) (D : va_G) (cI cJ : ClassId) (tt fl s1 s2 pn d1 r1 : Nat) (lim bs P sm C R np c1 : Int) (gn g1 : Nat → Int) (N L : Int → Int) (a b : Int) (hF : FlOK C R np N gn) (hL : LenOK L g1) (hlm : 1 ≤ lim ∧ lim ≤ 60) (ha1 : -2147483648 ≤ a) (ha2 : a < 2147483648) (hb1 : -2147483648 ≤ b) (hb2 : b < 2147483648) (sz : Nat) : VMi l yX2_words (.code yX2_words cX2_words 6 (some .int)) 10 1 6 [.ref tt, .int (iI a), .int (iI b)] D cI cJ [(tt, .inr (2, [.ref fl, .int (iI lim), .ref s1, .ref s2, .int (iI bs), .int (iI P), .int (iI sm)])), (fl, .inr (0, [.int (iI C), .int (iI R), .ref pn, .int (iI np)])), (pn, .inl (cI, 49, .inl (aI gn))), (s1, .inr (1, [.ref d1, .ref r1, .int (iI c1)])), (d1, .inl (cI, 16807, .inl (aI g1)))] sz (fun (r : Int) (u : Unit) => (0 ≤ a ∧ a < C ∧ 0 ≤ b ∧ b < R) ∧ r = wdN L lim (a * 7 + b) 343) (fun u : Unit => [(tt, .inr (2, [.ref fl, .int (iI lim), .ref s1, .ref s2, .int (iI bs), .int (iI P), .int (iI sm)])), (fl, .inr (0, [.int (iI C), .int (iI R), .ref pn, .int (iI np)])), (pn, .inl (cI, 49, .inl (aI gn))), (s1, .inr (1, [.ref d1, .ref r1, .int (iI c1)])), (d1, .inl (cI, 16807, .inl (aI g1)))]) (fun (E : String) (u : Unit) => E = eIO ∧ ¬ (0 ≤ a ∧ a < C ∧ 0 ≤ b ∧ b < R)) := by
  obtain ⟨hC1, hC2, hR1, hR2, hp1, hp2, -, -⟩ := id hF
  refine VM_of (Qc := fun A => QMi D A (fun (r : Int) (u : Unit) => (0 ≤ a ∧ a < C ∧ 0 ≤ b ∧ b < R) ∧ r = wdN L lim (a * 7 + b) 343) (fun u : Unit => [(tt, .inr (2, [.ref fl, .int (iI lim), .ref s1, .ref s2, .int (iI bs), .int (iI P), .int (iI sm)])), (fl, .inr (0, [.int (iI C), .int (iI R), .ref pn, .int (iI np)])), (pn, .inl (cI, 49, .inl (aI gn))), (s1, .inr (1, [.ref d1, .ref r1, .int (iI c1)])), (d1, .inl (cI, 16807, .inl (aI g1)))])) (XC := fun A => XQ D A (fun u : Unit => [(tt, .inr (2, [.ref fl, .int (iI lim), .ref s1, .ref s2, .int (iI bs), .int (iI P), .int (iI sm)])), (fl, .inr (0, [.int (iI C), .int (iI R), .ref pn, .int (iI np)])), (pn, .inl (cI, 49, .inl (aI gn))), (s1, .inr (1, [.ref d1, .ref r1, .int (iI c1)])), (d1, .inl (cI, 16807, .inl (aI g1)))]) (fun (E : String) (u : Unit) => E = eIO ∧ ¬ (0 ≤ a ∧ a < C ∧ 0 ≤ b ∧ b < R))) (by decide) rfl (Nat.le_of_ble_eq_true rfl) (fun p e s m below meth c ls A hx hb hr hts hown hlk hml hin hK hP hD hA hS hl hE hout => ?_)
  have hl : lv_has ls 6 [(0, .ref tt), (1, .int (iI a)), (2, .int (iI b))] := hl
  refine lv_aload_n hx hb dX2_words_0 rfl (lv_at hl 0 rfl) ?_
  refine lv_iload_n hx hb dX2_words_1 rfl (lv_at hl 1 rfl) ?_
  refine lv_iload_n hx hb dX2_words_2 rfl (lv_at hl 2 rfl) ?_
  refine zx_Vv (As := [.int (iI a), .int (iI b)]) (rest := []) (ws := [(tt, .inr (2, [.ref fl, .int (iI lim), .ref s1, .ref s2, .int (iI bs), .int (iI P), .int (iI sm)])), (fl, .inr (0, [.int (iI C), .int (iI R), .ref pn, .int (iI np)])), (pn, .inl (cI, 49, .inl (aI gn))), (s1, .inr (1, [.ref d1, .ref r1, .int (iI c1)])), (d1, .inl (cI, 16807, .inl (aI g1)))]) (wr := [(s1, .inr (1, [.ref d1, .ref r1, .int (iI c1)])), (d1, .inl (cI, 16807, .inl (aI g1)))]) (n := 2) hx hb (hml.trans hl.1.symm) hts hown hK hP hD hS hA hE (c_X2_requireSquare l hl0 D cI cJ tt fl s1 s2 pn lim bs P sm C R np gn N a b hF (by omega) (by omega) (by omega) (by omega) _) (gd_V q_244 q_246 q_1009 q_1 q_247) (by decide +kernel) rfl ⟨Nat.le_of_ble_eq_true rfl, Nat.le_of_ble_eq_true rfl⟩ ⟨Nat.le_of_ble_eq_true rfl, Nat.le_of_ble_eq_true rfl⟩ [0, 1, 2] [3, 4] rfl rfl (by decide) (by decide) (by decide) 0 (ci := 2) rfl rfl rfl rfl (Nat.le_of_ble_eq_true rfl) dX2_words_3 (fun E9 ce9 q9 u H locs hpx hP hD hS hce hcv hcl => ?_) (fun u H locs hq_1 hP hD hS => ?_)
  · have hP := hP.sub (ws' := [(tt, .inr (2, [.ref fl, .int (iI lim), .ref s1, .ref s2, .int (iI bs), .int (iI P), .int (iI sm)])), (fl, .inr (0, [.int (iI C), .int (iI R), .ref pn, .int (iI np)])), (pn, .inl (cI, 49, .inl (aI gn))), (s1, .inr (1, [.ref d1, .ref r1, .int (iI c1)])), (d1, .inl (cI, 16807, .inl (aI g1)))]) [2, 3, 4, 0, 1] rfl
    have hD := hD.sub (ws' := [(tt, .inr (2, [.ref fl, .int (iI lim), .ref s1, .ref s2, .int (iI bs), .int (iI P), .int (iI sm)])), (fl, .inr (0, [.int (iI C), .int (iI R), .ref pn, .int (iI np)])), (pn, .inl (cI, 49, .inl (aI gn))), (s1, .inr (1, [.ref d1, .ref r1, .int (iI c1)])), (d1, .inl (cI, 16807, .inl (aI g1)))]) [2, 3, 4, 0, 1] (by decide) rfl
    try dsimp only at hpx
    exact zx_O (()) hP hD hS (hpx) hout hlk hce hcv hcl (Nat.le_of_ble_eq_true rfl) (Nat.le_of_ble_eq_true rfl)
  have hP := hP.sub (ws' := [(tt, .inr (2, [.ref fl, .int (iI lim), .ref s1, .ref s2, .int (iI bs), .int (iI P), .int (iI sm)])), (fl, .inr (0, [.int (iI C), .int (iI R), .ref pn, .int (iI np)])), (pn, .inl (cI, 49, .inl (aI gn))), (s1, .inr (1, [.ref d1, .ref r1, .int (iI c1)])), (d1, .inl (cI, 16807, .inl (aI g1)))]) [2, 3, 4, 0, 1] rfl
  have hD := hD.sub (ws' := [(tt, .inr (2, [.ref fl, .int (iI lim), .ref s1, .ref s2, .int (iI bs), .int (iI P), .int (iI sm)])), (fl, .inr (0, [.int (iI C), .int (iI R), .ref pn, .int (iI np)])), (pn, .inl (cI, 49, .inl (aI gn))), (s1, .inr (1, [.ref d1, .ref r1, .int (iI c1)])), (d1, .inl (cI, 16807, .inl (aI g1)))]) [2, 3, 4, 0, 1] (by decide) rfl
  try dsimp only at hq_1
  have hsq := hq_1
  refine lv_iload_n hx hb dX2_words_6 rfl (lv_at hl 1 rfl) ?_
  refine lv_iload_n hx hb dX2_words_7 rfl (lv_at hl 2 rfl) ?_
  refine zc_S (As := [.int (iI a), .int (iI b)]) (rest := []) (ws := [(tt, .inr (2, [.ref fl, .int (iI lim), .ref s1, .ref s2, .int (iI bs), .int (iI P), .int (iI sm)])), (fl, .inr (0, [.int (iI C), .int (iI R), .ref pn, .int (iI np)])), (pn, .inl (cI, 49, .inl (aI gn))), (s1, .inr (1, [.ref d1, .ref r1, .int (iI c1)])), (d1, .inl (cI, 16807, .inl (aI g1)))]) (n := 2) hx hb (hml.trans hl.1.symm) hts hown hK hP (c_X2_squareAt l D cI cJ a b) (gd_S q_70 q_71 q_1 q_72) (by decide +kernel) rfl ⟨Nat.le_of_ble_eq_true rfl, Nat.le_of_ble_eq_true rfl⟩ ⟨Nat.le_of_ble_eq_true rfl, Nat.le_of_ble_eq_true rfl⟩ [] rfl rfl (Nat.le_of_ble_eq_true rfl) dX2_words_8 (fun r_3 hr_3 => ?_)
  subst r_3
  refine lv_istore_n (lv' := [(3, .int (iI (a * 7 + b))), (0, .ref tt), (1, .int (iI a)), (2, .int (iI b))]) hx hb dX2_words_11 rfl hl (by decide) rfl (fun ls hl => ?_)
  refine zv_iconst hx hb dX2_words_12 ?_
  refine lv_istore (lv' := [(4, .int (iI 0)), (3, .int (iI (a * 7 + b))), (0, .ref tt), (1, .int (iI a)), (2, .int (iI b))]) hx hb dX2_words_13 hl (by decide) rfl (fun ls hl => ?_)
  refine zv_iconst hx hb dX2_words_15 ?_
  refine lv_istore (lv' := [(5, .int (iI 0)), (4, .int (iI 0)), (3, .int (iI (a * 7 + b))), (0, .ref tt), (1, .int (iI a)), (2, .int (iI b))]) hx hb dX2_words_16 hl (by decide) rfl (fun ls hl => ?_)
  have loop18 : ∀ (nn : Nat) (u i : Int) (j : Nat), (i = (j : Int)) → ((j : Int) ≤ 343) → (u = wdN L lim (a * 7 + b) j) → (343 - (j : Int) < (nn : Int)) → ∀ (H : Heap) (locs : List Loc), va_P D vwCl [(tt, .inr (2, [.ref fl, .int (iI lim), .ref s1, .ref s2, .int (iI bs), .int (iI P), .int (iI sm)])), (fl, .inr (0, [.int (iI C), .int (iI R), .ref pn, .int (iI np)])), (pn, .inl (cI, 49, .inl (aI gn))), (s1, .inr (1, [.ref d1, .ref r1, .int (iI c1)])), (d1, .inl (cI, 16807, .inl (aI g1)))] H → va_D A [(tt, .inr (2, [.ref fl, .int (iI lim), .ref s1, .ref s2, .int (iI bs), .int (iI P), .int (iI sm)])), (fl, .inr (0, [.int (iI C), .int (iI R), .ref pn, .int (iI np)])), (pn, .inl (cI, 49, .inl (aI gn))), (s1, .inr (1, [.ref d1, .ref r1, .int (iI c1)])), (d1, .inl (cI, 16807, .inl (aI g1)))] → va_S A s.heap H locs → ∀ ls : Array Slot, lv_has ls 6 [(0, .ref tt), (1, .int (iI a)), (2, .int (iI b)), (3, .int (iI (a * 7 + b))), (4, .int (iI u)), (5, .int (iI i))] → W p l e (rmM 10 1 6) s m [.ref tt, .int (iI a), .int (iI b)].toArray below meth c H locs 1 6 (vx_MQ below (QMi D A (fun (r : Int) (u : Unit) => (0 ≤ a ∧ a < C ∧ 0 ≤ b ∧ b < R) ∧ r = wdN L lim (a * 7 + b) 343) (fun u : Unit => [(tt, .inr (2, [.ref fl, .int (iI lim), .ref s1, .ref s2, .int (iI bs), .int (iI P), .int (iI sm)])), (fl, .inr (0, [.int (iI C), .int (iI R), .ref pn, .int (iI np)])), (pn, .inl (cI, 49, .inl (aI gn))), (s1, .inr (1, [.ref d1, .ref r1, .int (iI c1)])), (d1, .inl (cI, 16807, .inl (aI g1)))])) (XQ D A (fun u : Unit => [(tt, .inr (2, [.ref fl, .int (iI lim), .ref s1, .ref s2, .int (iI bs), .int (iI P), .int (iI sm)])), (fl, .inr (0, [.int (iI C), .int (iI R), .ref pn, .int (iI np)])), (pn, .inl (cI, 49, .inl (aI gn))), (s1, .inr (1, [.ref d1, .ref r1, .int (iI c1)])), (d1, .inl (cI, 16807, .inl (aI g1)))]) (fun (E : String) (u : Unit) => E = eIO ∧ ¬ (0 ≤ a ∧ a < C ∧ 0 ≤ b ∧ b < R))) [.ref tt, .int (iI a), .int (iI b)].toArray s 1 6 A) (F0 m 18 ls []) := by
    intro nn
    induction nn with
    | zero => intro u i j hij hj hu hms; exfalso; omega
    | succ nn ih18 =>
      intro u i j hij hj hu hms H locs hP hD hS ls hl
      have hLb := hL.b ((a * 7 + b) * 343 + i)
      refine lv_iload hx hb dX2_words_18 (lv_at hl 5 rfl) ?_
      refine zv_sipush hx hb dX2_words_20 (by decide) ?_
      refine zv_icmp_ge hx hb dX2_words_23 (tgt := 55) (by decide) ⟨by omega, by omega⟩ ⟨by omega, by omega⟩ (fun c_4 => ?_) (fun c_4 => ?_)
      · refine lv_iload hx hb dX2_words_55 (lv_at hl 4 rfl) ?_
        exact vx_ret (MM_iret (()) hx hb hr hlk hP hD hS (Nat.le_of_ble_eq_true rfl) (Nat.le_of_ble_eq_true rfl) dX2_words_57 (⟨hsq, by rw [hu, show j = 343 by omega]⟩))
      · refine lv_aload_n hx hb dX2_words_26 rfl (lv_at hl 0 rfl) ?_
        refine lv_aload_n hx hb dX2_words_27 rfl (lv_at hl 0 rfl) ?_
        refine va_get (D := D) (ci := 2) (v := .ref s1) (C := RX2) (T := TX2) (N := 7) hx hb hts uX2 hown hK.1 hP 0 rfl rfl 2 (by decide) (hts _ q_159) (fun _ h9 => h9) rfl dX2_words_28 ?_
        refine lv_iload_n hx hb dX2_words_31 rfl (lv_at hl 3 rfl) ?_
        refine lv_iload hx hb dX2_words_32 (lv_at hl 5 rfl) ?_
        refine zc_S (As := [.int (iI (a * 7 + b)), .int (iI i)]) (rest := [.ref s1, .ref tt]) (ws := [(tt, .inr (2, [.ref fl, .int (iI lim), .ref s1, .ref s2, .int (iI bs), .int (iI P), .int (iI sm)])), (fl, .inr (0, [.int (iI C), .int (iI R), .ref pn, .int (iI np)])), (pn, .inl (cI, 49, .inl (aI gn))), (s1, .inr (1, [.ref d1, .ref r1, .int (iI c1)])), (d1, .inl (cI, 16807, .inl (aI g1)))]) (n := 2) hx hb (hml.trans hl.1.symm) hts hown hK hP (c_X2_placeOf l D cI cJ (a * 7 + b) i) (gd_S q_73 q_74 q_1 q_75) (by decide +kernel) rfl ⟨Nat.le_of_ble_eq_true rfl, Nat.le_of_ble_eq_true rfl⟩ ⟨Nat.le_of_ble_eq_true rfl, Nat.le_of_ble_eq_true rfl⟩ [] rfl rfl (Nat.le_of_ble_eq_true rfl) dX2_words_34 (fun r_5 hr_5 => ?_)
        subst r_5
        refine zc_V (As := [.int (iI ((a * 7 + b) * 343 + i))]) (rest := [.ref tt]) (ws := [(tt, .inr (2, [.ref fl, .int (iI lim), .ref s1, .ref s2, .int (iI bs), .int (iI P), .int (iI sm)])), (fl, .inr (0, [.int (iI C), .int (iI R), .ref pn, .int (iI np)])), (pn, .inl (cI, 49, .inl (aI gn))), (s1, .inr (1, [.ref d1, .ref r1, .int (iI c1)])), (d1, .inl (cI, 16807, .inl (aI g1)))]) (n := 1) hx hb (hml.trans hl.1.symm) hts hown hK hP (c_X1_distanceOf l D cI cJ s1 d1 r1 c1 g1 L ((a * 7 + b) * 343 + i) hL (by omega) (by omega)) (gd_V q_202 q_154 q_155 q_2 q_156) (by decide +kernel) rfl ⟨Nat.le_of_ble_eq_true rfl, Nat.le_of_ble_eq_true rfl⟩ ⟨Nat.le_of_ble_eq_true rfl, Nat.le_of_ble_eq_true rfl⟩ [3, 4] rfl 3 (ci := 1) rfl rfl rfl rfl (Nat.le_of_ble_eq_true rfl) dX2_words_37 (fun r_6 hr_6 => ?_)
        subst r_6
        refine zc_V (As := [.int (iI (L ((a * 7 + b) * 343 + i)))]) (rest := []) (ws := [(tt, .inr (2, [.ref fl, .int (iI lim), .ref s1, .ref s2, .int (iI bs), .int (iI P), .int (iI sm)])), (fl, .inr (0, [.int (iI C), .int (iI R), .ref pn, .int (iI np)])), (pn, .inl (cI, 49, .inl (aI gn))), (s1, .inr (1, [.ref d1, .ref r1, .int (iI c1)])), (d1, .inl (cI, 16807, .inl (aI g1)))]) (n := 1) hx hb (hml.trans hl.1.symm) hts hown hK hP (c_X2_isWithinLimit l D cI cJ tt fl s1 s2 pn d1 r1 lim bs P sm C R np c1 gn g1 N L (L ((a * 7 + b) * 343 + i)) hF hL hlm (by omega) (by omega)) (gd_V q_228 q_230 q_1008 q_1 q_231) (by decide +kernel) rfl ⟨Nat.le_of_ble_eq_true rfl, Nat.le_of_ble_eq_true rfl⟩ ⟨Nat.le_of_ble_eq_true rfl, Nat.le_of_ble_eq_true rfl⟩ [0, 1, 2, 3, 4] rfl 0 (ci := 2) rfl rfl rfl rfl (Nat.le_of_ble_eq_true rfl) dX2_words_40 (fun r_7 hr_7 => ?_)
        have hr9 := hr_7
        refine zv_if_eq hx hb dX2_words_43 (tgt := 49) (by decide) ⟨by omega, by omega⟩ (fun c_8 => ?_) (fun c_8 => ?_)
        · refine zv_iinc (k := 5) (lv' := [(5, .int (iI (i + 1))), (0, .ref tt), (1, .int (iI a)), (2, .int (iI b)), (3, .int (iI (a * 7 + b))), (4, .int (iI u))]) hx hb dX2_words_49 hl rfl (by decide) rfl (fun ls hl => ?_)
          refine lv_goto (tgt := 18) hx hb dX2_words_52 (by decide) ?_
          exact ih18 u (i + 1) (j + 1) (by omega) (by omega) (by unfold wdN; rw [← hu, ← hij]; first | rw [if_pos (by omega)] | (rw [if_neg (by omega)]; omega)) (by omega) _ _ hP hD hS ls (lv_sub hl [1, 2, 3, 4, 5, 0] rfl)
        · refine zv_iinc (k := 4) (lv' := [(4, .int (iI (u + 1))), (0, .ref tt), (1, .int (iI a)), (2, .int (iI b)), (3, .int (iI (a * 7 + b))), (5, .int (iI i))]) hx hb dX2_words_46 hl rfl (by decide) rfl (fun ls hl => ?_)
          refine zv_iinc (k := 5) (lv' := [(5, .int (iI (i + 1))), (4, .int (iI (u + 1))), (0, .ref tt), (1, .int (iI a)), (2, .int (iI b)), (3, .int (iI (a * 7 + b)))]) hx hb dX2_words_49 hl rfl (by decide) rfl (fun ls hl => ?_)
          refine lv_goto (tgt := 18) hx hb dX2_words_52 (by decide) ?_
          exact ih18 (u + 1) (i + 1) (j + 1) (by omega) (by omega) (by unfold wdN; rw [← hu, ← hij]; first | rw [if_pos (by omega)] | (rw [if_neg (by omega)]; omega)) (by omega) _ _ hP hD hS ls (lv_sub hl [2, 3, 4, 5, 1, 0] rfl)
  exact loop18 344 0 0 0 (by omega) (by omega) rfl (by omega) _ _ hP hD hS ls (lv_sub hl [3, 4, 5, 2, 1, 0] rfl)
end
section
set_option maxRecDepth 100000 in
set_option maxHeartbeats 4000000 in
theorem c_X2_step (l : Launch) (hl0 : l.stackTraces = false) (D : va_G) (cI cJ : ClassId) (tt fl s1 s2 pn d1 r1 : Nat) (lim bs P sm C R np c1 : Int) (gn g1 : Nat → Int) (N L : Int → Int) (d : Int) (hF : FlOK C R np N gn) (hL : LenOK L g1) (hlm : 1 ≤ lim ∧ lim ≤ 60) (hPg : GdZ C R N P) (hd1 : -2147483648 ≤ d) (hd2 : d < 2147483648) (sz : Nat) : VMi l yX2_step (.code yX2_step cX2_step 3 (some .int)) 8 1 6 [.ref tt, .int (iI d)] D cI cJ [(tt, .inr (2, [.ref fl, .int (iI lim), .ref s1, .ref s2, .int (iI bs), .int (iI P), .int (iI sm)])), (fl, .inr (0, [.int (iI C), .int (iI R), .ref pn, .int (iI np)])), (pn, .inl (cI, 49, .inl (aI gn))), (s1, .inr (1, [.ref d1, .ref r1, .int (iI c1)])), (d1, .inl (cI, 16807, .inl (aI g1)))] sz (fun (r : Int) (u : Int × Int) => (0 ≤ d ∧ d ≤ 3) ∧ astZ C R N L lim P d ≠ -1 ∧ r = L (astZ C R N L lim P d) ∧ u.1 = astZ C R N L lim P d ∧ u.2 = sm + 1) (fun u : Int × Int => [(tt, .inr (2, [.ref fl, .int (iI lim), .ref s1, .ref s2, .int (iI bs), .int (iI u.1), .int (iI u.2)])), (fl, .inr (0, [.int (iI C), .int (iI R), .ref pn, .int (iI np)])), (pn, .inl (cI, 49, .inl (aI gn))), (s1, .inr (1, [.ref d1, .ref r1, .int (iI c1)])), (d1, .inl (cI, 16807, .inl (aI g1)))]) (fun (E : String) (u : Int × Int) => ((E = eIA ∧ ¬ (0 ≤ d ∧ d ≤ 3)) ∨ (E = eIS ∧ (0 ≤ d ∧ d ≤ 3) ∧ astZ C R N L lim P d = -1)) ∧ u.1 = P ∧ u.2 = sm) := by
  obtain ⟨hC1, hC2, hR1, hR2, hp1, hp2, -, -⟩ := id hF
  obtain ⟨hz0, hz1, hz2⟩ := hPg.pl
  refine VM_of (Qc := fun A => QMi D A (fun (r : Int) (u : Int × Int) => (0 ≤ d ∧ d ≤ 3) ∧ astZ C R N L lim P d ≠ -1 ∧ r = L (astZ C R N L lim P d) ∧ u.1 = astZ C R N L lim P d ∧ u.2 = sm + 1) (fun u : Int × Int => [(tt, .inr (2, [.ref fl, .int (iI lim), .ref s1, .ref s2, .int (iI bs), .int (iI u.1), .int (iI u.2)])), (fl, .inr (0, [.int (iI C), .int (iI R), .ref pn, .int (iI np)])), (pn, .inl (cI, 49, .inl (aI gn))), (s1, .inr (1, [.ref d1, .ref r1, .int (iI c1)])), (d1, .inl (cI, 16807, .inl (aI g1)))])) (XC := fun A => XQ D A (fun u : Int × Int => [(tt, .inr (2, [.ref fl, .int (iI lim), .ref s1, .ref s2, .int (iI bs), .int (iI u.1), .int (iI u.2)])), (fl, .inr (0, [.int (iI C), .int (iI R), .ref pn, .int (iI np)])), (pn, .inl (cI, 49, .inl (aI gn))), (s1, .inr (1, [.ref d1, .ref r1, .int (iI c1)])), (d1, .inl (cI, 16807, .inl (aI g1)))]) (fun (E : String) (u : Int × Int) => ((E = eIA ∧ ¬ (0 ≤ d ∧ d ≤ 3)) ∨ (E = eIS ∧ (0 ≤ d ∧ d ≤ 3) ∧ astZ C R N L lim P d = -1)) ∧ u.1 = P ∧ u.2 = sm)) (by decide) rfl (Nat.le_of_ble_eq_true rfl) (fun p e s m below meth c ls A hx hb hr hts hown hlk hml hin hK hP hD hA hS hl hE hout => ?_)
  have hl : lv_has ls 3 [(0, .ref tt), (1, .int (iI d))] := hl
  refine lv_iload_n hx hb dX2_step_0 rfl (lv_at hl 1 rfl) ?_
  refine zv_if_lt hx hb dX2_step_1 (tgt := 9) (by decide) ⟨by omega, by omega⟩ (fun c_1 => ?_) (fun c_1 => ?_)
  · exact zx_T hx hb hl0 hown hts xt_IA (List.mem_of_getElem? (i := 2) rfl) hE (P, sm) hP hD hS (by dsimp only; exact ⟨Or.inl ⟨rfl, by omega⟩, rfl, rfl⟩) (hml.trans hl.1.symm) dX2_step_9 dX2_step_12 dX2_step_13 dX2_step_15 dX2_step_18 hout (Nat.le_of_ble_eq_true rfl) (Nat.le_of_ble_eq_true rfl) (Nat.le_of_ble_eq_true rfl) (Nat.le_of_ble_eq_true rfl) hlk (Nat.le_of_ble_eq_true rfl) (Nat.le_of_ble_eq_true rfl)
  · refine lv_iload_n hx hb dX2_step_4 rfl (lv_at hl 1 rfl) ?_
    refine zv_iconst hx hb dX2_step_5 ?_
    refine zv_icmp_lt hx hb dX2_step_6 (tgt := 19) (by decide) ⟨by omega, by omega⟩ ⟨by omega, by omega⟩ (fun c_2 => ?_) (fun c_2 => ?_)
    · have hab := astZ_b hF (L := L) (lim := lim) (d := d) hz0 hz1 hz2
      refine lv_aload_n hx hb dX2_step_19 rfl (lv_at hl 0 rfl) ?_
      refine lv_aload_n hx hb dX2_step_20 rfl (lv_at hl 0 rfl) ?_
      refine va_get (D := D) (ci := 2) (v := .int (iI P)) (C := RX2) (T := TX2) (N := 7) hx hb hts uX2 hown hK.1 hP 0 rfl rfl 5 (by decide) (hts _ q_162) (fun _ h9 => h9) rfl dX2_step_21 ?_
      refine lv_iload_n hx hb dX2_step_24 rfl (lv_at hl 1 rfl) ?_
      refine zc_V (As := [.int (iI P), .int (iI d)]) (rest := []) (ws := [(tt, .inr (2, [.ref fl, .int (iI lim), .ref s1, .ref s2, .int (iI bs), .int (iI P), .int (iI sm)])), (fl, .inr (0, [.int (iI C), .int (iI R), .ref pn, .int (iI np)])), (pn, .inl (cI, 49, .inl (aI gn))), (s1, .inr (1, [.ref d1, .ref r1, .int (iI c1)])), (d1, .inl (cI, 16807, .inl (aI g1)))]) (n := 2) hx hb (hml.trans hl.1.symm) hts hown hK hP (c_X2_afterStep l D cI cJ tt fl s1 s2 pn d1 r1 lim bs P sm C R np c1 gn g1 N L P d hF hL hlm (by omega) (by omega) (by omega) (by omega) (by omega)) (gd_V q_376 q_378 q_1011 q_1 q_379) (by decide +kernel) rfl ⟨Nat.le_of_ble_eq_true rfl, Nat.le_of_ble_eq_true rfl⟩ ⟨Nat.le_of_ble_eq_true rfl, Nat.le_of_ble_eq_true rfl⟩ [0, 1, 2, 3, 4] rfl 0 (ci := 2) rfl rfl rfl rfl (Nat.le_of_ble_eq_true rfl) dX2_step_25 (fun r_3 hr_3 => ?_)
      subst r_3
      refine lv_istore_n (lv' := [(2, .int (iI (astZ C R N L lim P d))), (0, .ref tt), (1, .int (iI d))]) hx hb dX2_step_28 rfl hl (by decide) rfl (fun ls hl => ?_)
      refine lv_iload_n hx hb dX2_step_29 rfl (lv_at hl 0 rfl) ?_
      refine zv_iconst hx hb dX2_step_30 ?_
      refine zv_icmp_ne hx hb dX2_step_31 (tgt := 44) (by decide) ⟨by omega, by omega⟩ ⟨by omega, by omega⟩ (fun c_4 => ?_) (fun c_4 => ?_)
      · refine lv_aload_n hx hb dX2_step_44 rfl (lv_at hl 1 rfl) ?_
        refine lv_iload_n hx hb dX2_step_45 rfl (lv_at hl 0 rfl) ?_
        refine va_put (D := D) (ci := 2) (v := .int (iI (astZ C R N L lim P d))) (ty := .int) (C := RX2) (T := TX2) (N := 7) hx hb hts uX2 tyX2 tyX2_ok nmX2 hown hK.1 hP hD hS 0 rfl rfl 5 (by decide) (hts _ q_162) (fun _ h9 => h9) rfl (by decide +kernel) rfl rfl (Nat.le_of_ble_eq_true rfl) dX2_step_46 (fun H locs hP hD hS => ?_)
        have hP : va_P D vwCl [(tt, .inr (2, [.ref fl, .int (iI lim), .ref s1, .ref s2, .int (iI bs), .int (iI (astZ C R N L lim P d)), .int (iI sm)])), (fl, .inr (0, [.int (iI C), .int (iI R), .ref pn, .int (iI np)])), (pn, .inl (cI, 49, .inl (aI gn))), (s1, .inr (1, [.ref d1, .ref r1, .int (iI c1)])), (d1, .inl (cI, 16807, .inl (aI g1)))] H := hP
        have hD : va_D A [(tt, .inr (2, [.ref fl, .int (iI lim), .ref s1, .ref s2, .int (iI bs), .int (iI (astZ C R N L lim P d)), .int (iI sm)])), (fl, .inr (0, [.int (iI C), .int (iI R), .ref pn, .int (iI np)])), (pn, .inl (cI, 49, .inl (aI gn))), (s1, .inr (1, [.ref d1, .ref r1, .int (iI c1)])), (d1, .inl (cI, 16807, .inl (aI g1)))] := hD
        refine lv_aload_n hx hb dX2_step_49 rfl (lv_at hl 1 rfl) ?_
        refine lv_dup hx hb dX2_step_50 rfl ?_
        refine va_get (D := D) (ci := 2) (v := .int (iI sm)) (C := RX2) (T := TX2) (N := 7) hx hb hts uX2 hown hK.1 hP 0 rfl rfl 6 (by decide) (hts _ q_163) (fun _ h9 => h9) rfl dX2_step_51 ?_
        refine zv_iconst hx hb dX2_step_54 ?_
        refine zv_iadd hx hb dX2_step_55 ?_
        refine va_put (D := D) (ci := 2) (v := .int (iI (sm + 1))) (ty := .int) (C := RX2) (T := TX2) (N := 7) hx hb hts uX2 tyX2 tyX2_ok nmX2 hown hK.1 hP hD hS 0 rfl rfl 6 (by decide) (hts _ q_163) (fun _ h9 => h9) rfl (by decide +kernel) rfl rfl (Nat.le_of_ble_eq_true rfl) dX2_step_56 (fun H locs hP hD hS => ?_)
        have hP : va_P D vwCl [(tt, .inr (2, [.ref fl, .int (iI lim), .ref s1, .ref s2, .int (iI bs), .int (iI (astZ C R N L lim P d)), .int (iI (sm + 1))])), (fl, .inr (0, [.int (iI C), .int (iI R), .ref pn, .int (iI np)])), (pn, .inl (cI, 49, .inl (aI gn))), (s1, .inr (1, [.ref d1, .ref r1, .int (iI c1)])), (d1, .inl (cI, 16807, .inl (aI g1)))] H := hP
        have hD : va_D A [(tt, .inr (2, [.ref fl, .int (iI lim), .ref s1, .ref s2, .int (iI bs), .int (iI (astZ C R N L lim P d)), .int (iI (sm + 1))])), (fl, .inr (0, [.int (iI C), .int (iI R), .ref pn, .int (iI np)])), (pn, .inl (cI, 49, .inl (aI gn))), (s1, .inr (1, [.ref d1, .ref r1, .int (iI c1)])), (d1, .inl (cI, 16807, .inl (aI g1)))] := hD
        refine lv_aload_n hx hb dX2_step_59 rfl (lv_at hl 1 rfl) ?_
        refine zc_V (As := []) (rest := []) (ws := [(tt, .inr (2, [.ref fl, .int (iI lim), .ref s1, .ref s2, .int (iI bs), .int (iI (astZ C R N L lim P d)), .int (iI (sm + 1))])), (fl, .inr (0, [.int (iI C), .int (iI R), .ref pn, .int (iI np)])), (pn, .inl (cI, 49, .inl (aI gn))), (s1, .inr (1, [.ref d1, .ref r1, .int (iI c1)])), (d1, .inl (cI, 16807, .inl (aI g1)))]) (n := 0) hx hb (hml.trans hl.1.symm) hts hown hK hP (c_X2_length l D cI cJ tt fl s1 s2 pn d1 r1 lim bs (astZ C R N L lim P d) (sm + 1) C R np c1 gn g1 N L hF hL hlm (⟨by omega, by omega⟩)) (gd_V q_207 q_199 q_200 q_1 q_201) (by decide +kernel) rfl ⟨Nat.le_of_ble_eq_true rfl, Nat.le_of_ble_eq_true rfl⟩ ⟨Nat.le_of_ble_eq_true rfl, Nat.le_of_ble_eq_true rfl⟩ [0, 1, 2, 3, 4] rfl 0 (ci := 2) rfl rfl rfl rfl (Nat.le_of_ble_eq_true rfl) dX2_step_60 (fun r_5 hr_5 => ?_)
        subst r_5
        exact vx_ret (MM_iret (astZ C R N L lim P d, (sm + 1)) hx hb hr hlk hP hD hS (Nat.le_of_ble_eq_true rfl) (Nat.le_of_ble_eq_true rfl) dX2_step_63 (by dsimp only; exact ⟨by omega, by assumption, rfl, rfl, rfl⟩))
      · exact zx_T hx hb hl0 hown hts xt_IS (List.mem_of_getElem? (i := 3) rfl) hE (P, sm) hP hD hS (by dsimp only; exact ⟨Or.inr ⟨rfl, by omega, by assumption⟩, rfl, rfl⟩) (hml.trans hl.1.symm) dX2_step_34 dX2_step_37 dX2_step_38 dX2_step_40 dX2_step_43 hout (Nat.le_of_ble_eq_true rfl) (Nat.le_of_ble_eq_true rfl) (Nat.le_of_ble_eq_true rfl) (Nat.le_of_ble_eq_true rfl) hlk (Nat.le_of_ble_eq_true rfl) (Nat.le_of_ble_eq_true rfl)
    · exact zx_T hx hb hl0 hown hts xt_IA (List.mem_of_getElem? (i := 2) rfl) hE (P, sm) hP hD hS (by dsimp only; exact ⟨Or.inl ⟨rfl, by omega⟩, rfl, rfl⟩) (hml.trans hl.1.symm) dX2_step_9 dX2_step_12 dX2_step_13 dX2_step_15 dX2_step_18 hout (Nat.le_of_ble_eq_true rfl) (Nat.le_of_ble_eq_true rfl) (Nat.le_of_ble_eq_true rfl) (Nat.le_of_ble_eq_true rfl) hlk (Nat.le_of_ble_eq_true rfl) (Nat.le_of_ble_eq_true rfl)
set_option maxRecDepth 100000 in
set_option maxHeartbeats 4000000 in
theorem c_X2_back (l : Launch) (hl0 : l.stackTraces = false) (D : va_G) (cI cJ : ClassId) (tt fl s1 s2 pn d1 r1 : Nat) (lim bs P sm C R np c1 : Int) (gn g1 : Nat → Int) (N L : Int → Int) (k : Int) (hF : FlOK C R np N gn) (hL : LenOK L g1) (hlm : 1 ≤ lim ∧ lim ≤ 60) (hP0 : 0 ≤ P ∧ P < 16807) (hcb : CbOK C R N L P) (hk1 : -2147483648 ≤ k) (hk2 : k < 2147483648) (sz : Nat) : VMi l yX2_back (.code yX2_back cX2_back 3 (some .int)) 8 1 6 [.ref tt, .int (iI k)] D cI cJ [(tt, .inr (2, [.ref fl, .int (iI lim), .ref s1, .ref s2, .int (iI bs), .int (iI P), .int (iI sm)])), (fl, .inr (0, [.int (iI C), .int (iI R), .ref pn, .int (iI np)])), (pn, .inl (cI, 49, .inl (aI gn))), (s1, .inr (1, [.ref d1, .ref r1, .int (iI c1)])), (d1, .inl (cI, 16807, .inl (aI g1)))] sz (fun (r : Int) (u : Int × Int) => (1 ≤ k ∧ k ≤ 60) ∧ 0 ≤ r ∧ (r = k ∨ r = L P) ∧ r ≤ k ∧ r ≤ L P ∧ u.1 = alZ C R N L P r.toNat ∧ u.2 = sm + r) (fun u : Int × Int => [(tt, .inr (2, [.ref fl, .int (iI lim), .ref s1, .ref s2, .int (iI bs), .int (iI u.1), .int (iI u.2)])), (fl, .inr (0, [.int (iI C), .int (iI R), .ref pn, .int (iI np)])), (pn, .inl (cI, 49, .inl (aI gn))), (s1, .inr (1, [.ref d1, .ref r1, .int (iI c1)])), (d1, .inl (cI, 16807, .inl (aI g1)))]) (fun (E : String) (u : Int × Int) => E = eIA ∧ ¬ (1 ≤ k ∧ k ≤ 60) ∧ u.1 = P ∧ u.2 = sm) := by
  obtain ⟨hC1, hC2, hR1, hR2, hp1, hp2, -, -⟩ := id hF
  obtain ⟨hP1, hP2⟩ := id hP0
  have hLb := hL.b P
  have hcb0 := hcb.1
  refine VM_of (Qc := fun A => QMi D A (fun (r : Int) (u : Int × Int) => (1 ≤ k ∧ k ≤ 60) ∧ 0 ≤ r ∧ (r = k ∨ r = L P) ∧ r ≤ k ∧ r ≤ L P ∧ u.1 = alZ C R N L P r.toNat ∧ u.2 = sm + r) (fun u : Int × Int => [(tt, .inr (2, [.ref fl, .int (iI lim), .ref s1, .ref s2, .int (iI bs), .int (iI u.1), .int (iI u.2)])), (fl, .inr (0, [.int (iI C), .int (iI R), .ref pn, .int (iI np)])), (pn, .inl (cI, 49, .inl (aI gn))), (s1, .inr (1, [.ref d1, .ref r1, .int (iI c1)])), (d1, .inl (cI, 16807, .inl (aI g1)))])) (XC := fun A => XQ D A (fun u : Int × Int => [(tt, .inr (2, [.ref fl, .int (iI lim), .ref s1, .ref s2, .int (iI bs), .int (iI u.1), .int (iI u.2)])), (fl, .inr (0, [.int (iI C), .int (iI R), .ref pn, .int (iI np)])), (pn, .inl (cI, 49, .inl (aI gn))), (s1, .inr (1, [.ref d1, .ref r1, .int (iI c1)])), (d1, .inl (cI, 16807, .inl (aI g1)))]) (fun (E : String) (u : Int × Int) => E = eIA ∧ ¬ (1 ≤ k ∧ k ≤ 60) ∧ u.1 = P ∧ u.2 = sm)) (by decide) rfl (Nat.le_of_ble_eq_true rfl) (fun p e s m below meth c ls A hx hb hr hts hown hlk hml hin hK hP hD hA hS hl hE hout => ?_)
  have hl : lv_has ls 3 [(0, .ref tt), (1, .int (iI k))] := hl
  refine lv_iload_n hx hb dX2_back_0 rfl (lv_at hl 1 rfl) ?_
  refine zv_iconst hx hb dX2_back_1 ?_
  refine zv_icmp_lt hx hb dX2_back_2 (tgt := 11) (by decide) ⟨by omega, by omega⟩ ⟨by omega, by omega⟩ (fun c_1 => ?_) (fun c_1 => ?_)
  · exact zx_T hx hb hl0 hown hts xt_IA (List.mem_of_getElem? (i := 5) rfl) hE (P, sm) hP hD hS (by dsimp only; exact ⟨rfl, by omega, rfl, rfl⟩) (hml.trans hl.1.symm) dX2_back_11 dX2_back_14 dX2_back_15 dX2_back_17 dX2_back_20 hout (Nat.le_of_ble_eq_true rfl) (Nat.le_of_ble_eq_true rfl) (Nat.le_of_ble_eq_true rfl) (Nat.le_of_ble_eq_true rfl) hlk (Nat.le_of_ble_eq_true rfl) (Nat.le_of_ble_eq_true rfl)
  · refine lv_iload_n hx hb dX2_back_5 rfl (lv_at hl 1 rfl) ?_
    refine zv_bipush hx hb dX2_back_6 (by decide) ?_
    refine zv_icmp_le hx hb dX2_back_8 (tgt := 21) (by decide) ⟨by omega, by omega⟩ ⟨by omega, by omega⟩ (fun c_2 => ?_) (fun c_2 => ?_)
    · refine lv_iload_n hx hb dX2_back_21 rfl (lv_at hl 1 rfl) ?_
      refine lv_aload_n hx hb dX2_back_22 rfl (lv_at hl 0 rfl) ?_
      refine zc_V (As := []) (rest := [.int (iI k)]) (ws := [(tt, .inr (2, [.ref fl, .int (iI lim), .ref s1, .ref s2, .int (iI bs), .int (iI P), .int (iI sm)])), (fl, .inr (0, [.int (iI C), .int (iI R), .ref pn, .int (iI np)])), (pn, .inl (cI, 49, .inl (aI gn))), (s1, .inr (1, [.ref d1, .ref r1, .int (iI c1)])), (d1, .inl (cI, 16807, .inl (aI g1)))]) (n := 0) hx hb (hml.trans hl.1.symm) hts hown hK hP (c_X2_length l D cI cJ tt fl s1 s2 pn d1 r1 lim bs P sm C R np c1 gn g1 N L hF hL hlm hP0) (gd_V q_207 q_199 q_200 q_1 q_201) (by decide +kernel) rfl ⟨Nat.le_of_ble_eq_true rfl, Nat.le_of_ble_eq_true rfl⟩ ⟨Nat.le_of_ble_eq_true rfl, Nat.le_of_ble_eq_true rfl⟩ [0, 1, 2, 3, 4] rfl 0 (ci := 2) rfl rfl rfl rfl (Nat.le_of_ble_eq_true rfl) dX2_back_23 (fun r_3 hr_3 => ?_)
      subst r_3
      refine zj_min hx hb (hml.trans hl.1.symm) hown (hts _ q_44) (hts _ q_45) (hts _ q_4) (hts _ q_46) (Nat.le_of_ble_eq_true rfl) (Nat.le_of_ble_eq_true rfl) (Nat.le_of_ble_eq_true rfl) (Nat.le_of_ble_eq_true rfl) ⟨by omega, by omega⟩ ⟨by omega, by omega⟩ dX2_back_26 ?_
      refine zv_nam (fun mn emn => ?_)
      have hmn : 0 ≤ mn ∧ (mn = k ∨ mn = L P) ∧ mn ≤ k ∧ mn ≤ L P := by rw [emn]; split <;> omega
      refine lv_istore_n (lv' := [(2, .int (iI mn)), (0, .ref tt), (1, .int (iI k))]) hx hb dX2_back_29 rfl hl (by decide) rfl (fun ls hl => ?_)
      refine lv_aload_n hx hb dX2_back_30 rfl (lv_at hl 1 rfl) ?_
      refine lv_aload_n hx hb dX2_back_31 rfl (lv_at hl 1 rfl) ?_
      refine lv_iload_n hx hb dX2_back_32 rfl (lv_at hl 0 rfl) ?_
      refine zc_V (As := [.int (iI mn)]) (rest := [.ref tt]) (ws := [(tt, .inr (2, [.ref fl, .int (iI lim), .ref s1, .ref s2, .int (iI bs), .int (iI P), .int (iI sm)])), (fl, .inr (0, [.int (iI C), .int (iI R), .ref pn, .int (iI np)])), (pn, .inl (cI, 49, .inl (aI gn))), (s1, .inr (1, [.ref d1, .ref r1, .int (iI c1)])), (d1, .inl (cI, 16807, .inl (aI g1)))]) (n := 1) hx hb (hml.trans hl.1.symm) hts hown hK hP (c_X2_alongCable l D cI cJ tt fl s1 s2 pn d1 r1 lim bs P sm C R np c1 gn g1 N L mn hF hL hlm (fun j hj => hcb.2.2 j (by omega)) (by omega) (by omega)) (gd_V q_417 q_419 q_1013 q_1 q_420) (by decide +kernel) rfl ⟨Nat.le_of_ble_eq_true rfl, Nat.le_of_ble_eq_true rfl⟩ ⟨Nat.le_of_ble_eq_true rfl, Nat.le_of_ble_eq_true rfl⟩ [0, 1, 2, 3, 4] rfl 0 (ci := 2) rfl rfl rfl rfl (Nat.le_of_ble_eq_true rfl) dX2_back_33 (fun r_4 hr_4 => ?_)
      subst r_4
      refine va_put (D := D) (ci := 2) (v := .int (iI (alZ C R N L P mn.toNat))) (ty := .int) (C := RX2) (T := TX2) (N := 7) hx hb hts uX2 tyX2 tyX2_ok nmX2 hown hK.1 hP hD hS 0 rfl rfl 5 (by decide) (hts _ q_162) (fun _ h9 => h9) rfl (by decide +kernel) rfl rfl (Nat.le_of_ble_eq_true rfl) dX2_back_36 (fun H locs hP hD hS => ?_)
      have hP : va_P D vwCl [(tt, .inr (2, [.ref fl, .int (iI lim), .ref s1, .ref s2, .int (iI bs), .int (iI (alZ C R N L P mn.toNat)), .int (iI sm)])), (fl, .inr (0, [.int (iI C), .int (iI R), .ref pn, .int (iI np)])), (pn, .inl (cI, 49, .inl (aI gn))), (s1, .inr (1, [.ref d1, .ref r1, .int (iI c1)])), (d1, .inl (cI, 16807, .inl (aI g1)))] H := hP
      have hD : va_D A [(tt, .inr (2, [.ref fl, .int (iI lim), .ref s1, .ref s2, .int (iI bs), .int (iI (alZ C R N L P mn.toNat)), .int (iI sm)])), (fl, .inr (0, [.int (iI C), .int (iI R), .ref pn, .int (iI np)])), (pn, .inl (cI, 49, .inl (aI gn))), (s1, .inr (1, [.ref d1, .ref r1, .int (iI c1)])), (d1, .inl (cI, 16807, .inl (aI g1)))] := hD
      refine lv_aload_n hx hb dX2_back_39 rfl (lv_at hl 1 rfl) ?_
      refine lv_dup hx hb dX2_back_40 rfl ?_
      refine va_get (D := D) (ci := 2) (v := .int (iI sm)) (C := RX2) (T := TX2) (N := 7) hx hb hts uX2 hown hK.1 hP 0 rfl rfl 6 (by decide) (hts _ q_163) (fun _ h9 => h9) rfl dX2_back_41 ?_
      refine lv_iload_n hx hb dX2_back_44 rfl (lv_at hl 0 rfl) ?_
      refine zv_iadd hx hb dX2_back_45 ?_
      refine va_put (D := D) (ci := 2) (v := .int (iI (sm + mn))) (ty := .int) (C := RX2) (T := TX2) (N := 7) hx hb hts uX2 tyX2 tyX2_ok nmX2 hown hK.1 hP hD hS 0 rfl rfl 6 (by decide) (hts _ q_163) (fun _ h9 => h9) rfl (by decide +kernel) rfl rfl (Nat.le_of_ble_eq_true rfl) dX2_back_46 (fun H locs hP hD hS => ?_)
      have hP : va_P D vwCl [(tt, .inr (2, [.ref fl, .int (iI lim), .ref s1, .ref s2, .int (iI bs), .int (iI (alZ C R N L P mn.toNat)), .int (iI (sm + mn))])), (fl, .inr (0, [.int (iI C), .int (iI R), .ref pn, .int (iI np)])), (pn, .inl (cI, 49, .inl (aI gn))), (s1, .inr (1, [.ref d1, .ref r1, .int (iI c1)])), (d1, .inl (cI, 16807, .inl (aI g1)))] H := hP
      have hD : va_D A [(tt, .inr (2, [.ref fl, .int (iI lim), .ref s1, .ref s2, .int (iI bs), .int (iI (alZ C R N L P mn.toNat)), .int (iI (sm + mn))])), (fl, .inr (0, [.int (iI C), .int (iI R), .ref pn, .int (iI np)])), (pn, .inl (cI, 49, .inl (aI gn))), (s1, .inr (1, [.ref d1, .ref r1, .int (iI c1)])), (d1, .inl (cI, 16807, .inl (aI g1)))] := hD
      refine lv_iload_n hx hb dX2_back_49 rfl (lv_at hl 0 rfl) ?_
      exact vx_ret (MM_iret (alZ C R N L P mn.toNat, (sm + mn)) hx hb hr hlk hP hD hS (Nat.le_of_ble_eq_true rfl) (Nat.le_of_ble_eq_true rfl) dX2_back_50 (by dsimp only; exact ⟨by omega, hmn.1, hmn.2.1, hmn.2.2.1, hmn.2.2.2, rfl, rfl⟩))
    · exact zx_T hx hb hl0 hown hts xt_IA (List.mem_of_getElem? (i := 5) rfl) hE (P, sm) hP hD hS (by dsimp only; exact ⟨rfl, by omega, rfl, rfl⟩) (hml.trans hl.1.symm) dX2_back_11 dX2_back_14 dX2_back_15 dX2_back_17 dX2_back_20 hout (Nat.le_of_ble_eq_true rfl) (Nat.le_of_ble_eq_true rfl) (Nat.le_of_ble_eq_true rfl) (Nat.le_of_ble_eq_true rfl) hlk (Nat.le_of_ble_eq_true rfl) (Nat.le_of_ble_eq_true rfl)
set_option maxRecDepth 100000 in
set_option maxHeartbeats 4000000 in
theorem c_X2_go (l : Launch) (hl0 : l.stackTraces = false) (D : va_G) (cI cJ : ClassId) (tt fl s1 s2 pn d1 r1 d2 r2 : Nat) (lim bs P sm C R np c1 c2 : Int) (gn g1 g2 h2 : Nat → Int) (N L : Int → Int) (a b : Int) (hF : FlOK C R np N gn) (hL : LenOK L g1) (hlm : 1 ≤ lim ∧ lim ≤ 60) (hPg : GdZ C R N P) (ha1 : -2147483648 ≤ a) (ha2 : a < 2147483648) (hb1 : -2147483648 ≤ b) (hb2 : b < 2147483648) (sz : Nat) : VMi l yX2_go (.code yX2_go cX2_go 5 (some .int)) 10 2 12 [.ref tt, .int (iI a), .int (iI b)] D cI cJ [(tt, .inr (2, [.ref fl, .int (iI lim), .ref s1, .ref s2, .int (iI bs), .int (iI P), .int (iI sm)])), (fl, .inr (0, [.int (iI C), .int (iI R), .ref pn, .int (iI np)])), (pn, .inl (cI, 49, .inl (aI gn))), (s1, .inr (1, [.ref d1, .ref r1, .int (iI c1)])), (d1, .inl (cI, 16807, .inl (aI g1))), (s2, .inr (1, [.ref d2, .ref r2, .int (iI c2)])), (d2, .inl (cI, 16807, .inl (aI g2))), (r2, .inl (cI, 9163, .inl (aI h2)))] sz (fun (r : Int) (u : Int × Int × (Nat → Int) × (Nat → Int) × Int) => (0 ≤ a ∧ a < C ∧ 0 ≤ b ∧ b < R) ∧ (bsF (astZ C R N L lim) (a * 7 + b) 16807 0 (bs0 P)).1 ≠ -1 ∧ u.1 = (bsF (astZ C R N L lim) (a * 7 + b) 16807 0 (bs0 P)).1 ∧ r = (bsF (astZ C R N L lim) (a * 7 + b) 16807 0 (bs0 P)).2.2.1 (bsF (astZ C R N L lim) (a * 7 + b) 16807 0 (bs0 P)).1 ∧ u.2.1 = sm + r) (fun u : Int × Int × (Nat → Int) × (Nat → Int) × Int => [(tt, .inr (2, [.ref fl, .int (iI lim), .ref s1, .ref s2, .int (iI bs), .int (iI u.1), .int (iI u.2.1)])), (fl, .inr (0, [.int (iI C), .int (iI R), .ref pn, .int (iI np)])), (pn, .inl (cI, 49, .inl (aI gn))), (s1, .inr (1, [.ref d1, .ref r1, .int (iI c1)])), (d1, .inl (cI, 16807, .inl (aI g1))), (s2, .inr (1, [.ref d2, .ref r2, .int (iI u.2.2.2.2)])), (d2, .inl (cI, 16807, .inl (aI u.2.2.1))), (r2, .inl (cI, 9163, .inl (aI u.2.2.2.1)))]) (fun (E : String) (u : Int × Int × (Nat → Int) × (Nat → Int) × Int) => ((E = eIO ∧ ¬ (0 ≤ a ∧ a < C ∧ 0 ≤ b ∧ b < R)) ∨ (E = eNS ∧ (0 ≤ a ∧ a < C ∧ 0 ≤ b ∧ b < R) ∧ (bsF (astZ C R N L lim) (a * 7 + b) 16807 0 (bs0 P)).1 = -1)) ∧ u.1 = P ∧ u.2.1 = sm) := by
  obtain ⟨hC1, hC2, hR1, hR2, hp1, hp2, -, -⟩ := id hF
  obtain ⟨hz0, hz1, hz2⟩ := hPg.pl
  have hgd : ∀ z d : Int, 0 ≤ d → d ≤ 3 → GdZ C R N z → astZ C R N L lim z d ≠ -1 → GdZ C R N (astZ C R N L lim z d) := fun z d k1 k2 k3 k4 => astZ_gd hF k3 k1 k2 k4
  obtain ⟨X, hX⟩ : ∃ X, X = (bsF (astZ C R N L lim) (a * 7 + b) 16807 0 (bs0 P)) := ⟨_, rfl⟩
  obtain ⟨k9, hBI, hX1⟩ := BI_F hgd (a * 7 + b) 16807 0 _ (BI_0 hPg)
  rw [← hX] at hBI hX1
  have hX2 : X.1 = -1 ∨ (0 ≤ X.1 ∧ X.1 < 16807) := hX1.elim Or.inl (fun k => by have := hBI.2.2.2.1 _ k.1; exact Or.inr ⟨this.1, this.2.1⟩)
  refine VM_of (Qc := fun A => QMi D A (fun (r : Int) (u : Int × Int × (Nat → Int) × (Nat → Int) × Int) => (0 ≤ a ∧ a < C ∧ 0 ≤ b ∧ b < R) ∧ (bsF (astZ C R N L lim) (a * 7 + b) 16807 0 (bs0 P)).1 ≠ -1 ∧ u.1 = (bsF (astZ C R N L lim) (a * 7 + b) 16807 0 (bs0 P)).1 ∧ r = (bsF (astZ C R N L lim) (a * 7 + b) 16807 0 (bs0 P)).2.2.1 (bsF (astZ C R N L lim) (a * 7 + b) 16807 0 (bs0 P)).1 ∧ u.2.1 = sm + r) (fun u : Int × Int × (Nat → Int) × (Nat → Int) × Int => [(tt, .inr (2, [.ref fl, .int (iI lim), .ref s1, .ref s2, .int (iI bs), .int (iI u.1), .int (iI u.2.1)])), (fl, .inr (0, [.int (iI C), .int (iI R), .ref pn, .int (iI np)])), (pn, .inl (cI, 49, .inl (aI gn))), (s1, .inr (1, [.ref d1, .ref r1, .int (iI c1)])), (d1, .inl (cI, 16807, .inl (aI g1))), (s2, .inr (1, [.ref d2, .ref r2, .int (iI u.2.2.2.2)])), (d2, .inl (cI, 16807, .inl (aI u.2.2.1))), (r2, .inl (cI, 9163, .inl (aI u.2.2.2.1)))])) (XC := fun A => XQ D A (fun u : Int × Int × (Nat → Int) × (Nat → Int) × Int => [(tt, .inr (2, [.ref fl, .int (iI lim), .ref s1, .ref s2, .int (iI bs), .int (iI u.1), .int (iI u.2.1)])), (fl, .inr (0, [.int (iI C), .int (iI R), .ref pn, .int (iI np)])), (pn, .inl (cI, 49, .inl (aI gn))), (s1, .inr (1, [.ref d1, .ref r1, .int (iI c1)])), (d1, .inl (cI, 16807, .inl (aI g1))), (s2, .inr (1, [.ref d2, .ref r2, .int (iI u.2.2.2.2)])), (d2, .inl (cI, 16807, .inl (aI u.2.2.1))), (r2, .inl (cI, 9163, .inl (aI u.2.2.2.1)))]) (fun (E : String) (u : Int × Int × (Nat → Int) × (Nat → Int) × Int) => ((E = eIO ∧ ¬ (0 ≤ a ∧ a < C ∧ 0 ≤ b ∧ b < R)) ∨ (E = eNS ∧ (0 ≤ a ∧ a < C ∧ 0 ≤ b ∧ b < R) ∧ (bsF (astZ C R N L lim) (a * 7 + b) 16807 0 (bs0 P)).1 = -1)) ∧ u.1 = P ∧ u.2.1 = sm)) (by decide) rfl (Nat.le_of_ble_eq_true rfl) (fun p e s m below meth c ls A hx hb hr hts hown hlk hml hin hK hP hD hA hS hl hE hout => ?_)
  have hl : lv_has ls 5 [(0, .ref tt), (1, .int (iI a)), (2, .int (iI b))] := hl
  refine lv_aload_n hx hb dX2_go_0 rfl (lv_at hl 0 rfl) ?_
  refine lv_iload_n hx hb dX2_go_1 rfl (lv_at hl 1 rfl) ?_
  refine lv_iload_n hx hb dX2_go_2 rfl (lv_at hl 2 rfl) ?_
  refine zx_Vv (As := [.int (iI a), .int (iI b)]) (rest := []) (ws := [(tt, .inr (2, [.ref fl, .int (iI lim), .ref s1, .ref s2, .int (iI bs), .int (iI P), .int (iI sm)])), (fl, .inr (0, [.int (iI C), .int (iI R), .ref pn, .int (iI np)])), (pn, .inl (cI, 49, .inl (aI gn))), (s1, .inr (1, [.ref d1, .ref r1, .int (iI c1)])), (d1, .inl (cI, 16807, .inl (aI g1))), (s2, .inr (1, [.ref d2, .ref r2, .int (iI c2)])), (d2, .inl (cI, 16807, .inl (aI g2))), (r2, .inl (cI, 9163, .inl (aI h2)))]) (wr := [(s1, .inr (1, [.ref d1, .ref r1, .int (iI c1)])), (d1, .inl (cI, 16807, .inl (aI g1))), (s2, .inr (1, [.ref d2, .ref r2, .int (iI c2)])), (d2, .inl (cI, 16807, .inl (aI g2))), (r2, .inl (cI, 9163, .inl (aI h2)))]) (n := 2) hx hb (hml.trans hl.1.symm) hts hown hK hP hD hS hA hE (c_X2_requireSquare l hl0 D cI cJ tt fl s1 s2 pn lim bs P sm C R np gn N a b hF (by omega) (by omega) (by omega) (by omega) _) (gd_V q_244 q_246 q_1009 q_1 q_247) (by decide +kernel) rfl ⟨Nat.le_of_ble_eq_true rfl, Nat.le_of_ble_eq_true rfl⟩ ⟨Nat.le_of_ble_eq_true rfl, Nat.le_of_ble_eq_true rfl⟩ [0, 1, 2] [3, 4, 5, 6, 7] rfl rfl (by decide) (by decide) (by decide) 0 (ci := 2) rfl rfl rfl rfl (Nat.le_of_ble_eq_true rfl) dX2_go_3 (fun E9 ce9 q9 u H locs hpx hP hD hS hce hcv hcl => ?_) (fun u H locs hq_1 hP hD hS => ?_)
  · have hP := hP.sub (ws' := [(tt, .inr (2, [.ref fl, .int (iI lim), .ref s1, .ref s2, .int (iI bs), .int (iI P), .int (iI sm)])), (fl, .inr (0, [.int (iI C), .int (iI R), .ref pn, .int (iI np)])), (pn, .inl (cI, 49, .inl (aI gn))), (s1, .inr (1, [.ref d1, .ref r1, .int (iI c1)])), (d1, .inl (cI, 16807, .inl (aI g1))), (s2, .inr (1, [.ref d2, .ref r2, .int (iI c2)])), (d2, .inl (cI, 16807, .inl (aI g2))), (r2, .inl (cI, 9163, .inl (aI h2)))]) [5, 6, 7, 0, 1, 2, 3, 4] rfl
    have hD := hD.sub (ws' := [(tt, .inr (2, [.ref fl, .int (iI lim), .ref s1, .ref s2, .int (iI bs), .int (iI P), .int (iI sm)])), (fl, .inr (0, [.int (iI C), .int (iI R), .ref pn, .int (iI np)])), (pn, .inl (cI, 49, .inl (aI gn))), (s1, .inr (1, [.ref d1, .ref r1, .int (iI c1)])), (d1, .inl (cI, 16807, .inl (aI g1))), (s2, .inr (1, [.ref d2, .ref r2, .int (iI c2)])), (d2, .inl (cI, 16807, .inl (aI g2))), (r2, .inl (cI, 9163, .inl (aI h2)))]) [5, 6, 7, 0, 1, 2, 3, 4] (by decide) rfl
    try dsimp only at hpx
    exact zx_O (P, sm, g2, h2, c2) hP hD hS (by dsimp only; exact ⟨Or.inl hpx, rfl, rfl⟩) hout hlk hce hcv hcl (Nat.le_of_ble_eq_true rfl) (Nat.le_of_ble_eq_true rfl)
  have hP := hP.sub (ws' := [(tt, .inr (2, [.ref fl, .int (iI lim), .ref s1, .ref s2, .int (iI bs), .int (iI P), .int (iI sm)])), (fl, .inr (0, [.int (iI C), .int (iI R), .ref pn, .int (iI np)])), (pn, .inl (cI, 49, .inl (aI gn))), (s1, .inr (1, [.ref d1, .ref r1, .int (iI c1)])), (d1, .inl (cI, 16807, .inl (aI g1))), (s2, .inr (1, [.ref d2, .ref r2, .int (iI c2)])), (d2, .inl (cI, 16807, .inl (aI g2))), (r2, .inl (cI, 9163, .inl (aI h2)))]) [5, 6, 7, 0, 1, 2, 3, 4] rfl
  have hD := hD.sub (ws' := [(tt, .inr (2, [.ref fl, .int (iI lim), .ref s1, .ref s2, .int (iI bs), .int (iI P), .int (iI sm)])), (fl, .inr (0, [.int (iI C), .int (iI R), .ref pn, .int (iI np)])), (pn, .inl (cI, 49, .inl (aI gn))), (s1, .inr (1, [.ref d1, .ref r1, .int (iI c1)])), (d1, .inl (cI, 16807, .inl (aI g1))), (s2, .inr (1, [.ref d2, .ref r2, .int (iI c2)])), (d2, .inl (cI, 16807, .inl (aI g2))), (r2, .inl (cI, 9163, .inl (aI h2)))]) [5, 6, 7, 0, 1, 2, 3, 4] (by decide) rfl
  try dsimp only at hq_1
  have hsq := hq_1
  refine lv_aload_n hx hb dX2_go_6 rfl (lv_at hl 0 rfl) ?_
  refine lv_iload_n hx hb dX2_go_7 rfl (lv_at hl 1 rfl) ?_
  refine lv_iload_n hx hb dX2_go_8 rfl (lv_at hl 2 rfl) ?_
  refine zc_S (As := [.int (iI a), .int (iI b)]) (rest := [.ref tt]) (ws := [(tt, .inr (2, [.ref fl, .int (iI lim), .ref s1, .ref s2, .int (iI bs), .int (iI P), .int (iI sm)])), (fl, .inr (0, [.int (iI C), .int (iI R), .ref pn, .int (iI np)])), (pn, .inl (cI, 49, .inl (aI gn))), (s1, .inr (1, [.ref d1, .ref r1, .int (iI c1)])), (d1, .inl (cI, 16807, .inl (aI g1))), (s2, .inr (1, [.ref d2, .ref r2, .int (iI c2)])), (d2, .inl (cI, 16807, .inl (aI g2))), (r2, .inl (cI, 9163, .inl (aI h2)))]) (n := 2) hx hb (hml.trans hl.1.symm) hts hown hK hP (c_X2_squareAt l D cI cJ a b) (gd_S q_70 q_71 q_1 q_72) (by decide +kernel) rfl ⟨Nat.le_of_ble_eq_true rfl, Nat.le_of_ble_eq_true rfl⟩ ⟨Nat.le_of_ble_eq_true rfl, Nat.le_of_ble_eq_true rfl⟩ [] rfl rfl (Nat.le_of_ble_eq_true rfl) dX2_go_9 (fun r_3 hr_3 => ?_)
  subst r_3
  refine zm_Vi (As := [.int (iI (a * 7 + b))]) (rest := []) (ws := [(tt, .inr (2, [.ref fl, .int (iI lim), .ref s1, .ref s2, .int (iI bs), .int (iI P), .int (iI sm)])), (fl, .inr (0, [.int (iI C), .int (iI R), .ref pn, .int (iI np)])), (pn, .inl (cI, 49, .inl (aI gn))), (s1, .inr (1, [.ref d1, .ref r1, .int (iI c1)])), (d1, .inl (cI, 16807, .inl (aI g1))), (s2, .inr (1, [.ref d2, .ref r2, .int (iI c2)])), (d2, .inl (cI, 16807, .inl (aI g2))), (r2, .inl (cI, 9163, .inl (aI h2)))]) (wr := []) (n := 1) hx hb (hml.trans hl.1.symm) hts hown hK hP hD hS hA (c_X2_nearestPlaceOf l D cI cJ tt fl s1 s2 pn d1 r1 d2 r2 lim bs P sm C R np c1 c2 gn g1 g2 h2 N L (a * 7 + b) hF hL hlm hPg (by omega) (by omega) _) (gd_V q_389 q_391 q_1012 q_1 q_392) (by decide +kernel) rfl ⟨Nat.le_of_ble_eq_true rfl, Nat.le_of_ble_eq_true rfl⟩ ⟨Nat.le_of_ble_eq_true rfl, Nat.le_of_ble_eq_true rfl⟩ [0, 1, 2, 3, 4, 5, 6, 7] [] rfl rfl (by decide) (by decide) (by decide) 0 (ci := 2) rfl rfl rfl rfl (Nat.le_of_ble_eq_true rfl) dX2_go_12 (fun r_5 u H locs hq_4 hP hD hS => ?_)
  obtain ⟨g9, h9, c9⟩ := u
  have hP := hP.sub (ws' := [(tt, .inr (2, [.ref fl, .int (iI lim), .ref s1, .ref s2, .int (iI bs), .int (iI P), .int (iI sm)])), (fl, .inr (0, [.int (iI C), .int (iI R), .ref pn, .int (iI np)])), (pn, .inl (cI, 49, .inl (aI gn))), (s1, .inr (1, [.ref d1, .ref r1, .int (iI c1)])), (d1, .inl (cI, 16807, .inl (aI g1))), (s2, .inr (1, [.ref d2, .ref r2, .int (iI c9)])), (d2, .inl (cI, 16807, .inl (aI g9))), (r2, .inl (cI, 9163, .inl (aI h9)))]) [0, 1, 2, 3, 4, 5, 6, 7] rfl
  have hD := hD.sub (ws' := [(tt, .inr (2, [.ref fl, .int (iI lim), .ref s1, .ref s2, .int (iI bs), .int (iI P), .int (iI sm)])), (fl, .inr (0, [.int (iI C), .int (iI R), .ref pn, .int (iI np)])), (pn, .inl (cI, 49, .inl (aI gn))), (s1, .inr (1, [.ref d1, .ref r1, .int (iI c1)])), (d1, .inl (cI, 16807, .inl (aI g1))), (s2, .inr (1, [.ref d2, .ref r2, .int (iI c9)])), (d2, .inl (cI, 16807, .inl (aI g9))), (r2, .inl (cI, 9163, .inl (aI h9)))]) [0, 1, 2, 3, 4, 5, 6, 7] (by decide) rfl
  try dsimp only at hq_4
  obtain ⟨hr1, hsp⟩ := hq_4
  rw [← hX] at hr1 hsp
  refine zv_top (y := X.1) (hr1) ?_
  refine lv_istore_n (lv' := [(3, .int (iI X.1)), (0, .ref tt), (1, .int (iI a)), (2, .int (iI b))]) hx hb dX2_go_15 rfl hl (by decide) rfl (fun ls hl => ?_)
  refine lv_iload_n hx hb dX2_go_16 rfl (lv_at hl 0 rfl) ?_
  refine zv_iconst hx hb dX2_go_17 ?_
  refine zv_icmp_ne hx hb dX2_go_18 (tgt := 31) (by decide) ⟨by omega, by omega⟩ ⟨by omega, by omega⟩ (fun c_6 => ?_) (fun c_6 => ?_)
  · refine lv_aload_n hx hb dX2_go_31 rfl (lv_at hl 1 rfl) ?_
    refine va_get (D := D) (ci := 2) (v := .ref s2) (C := RX2) (T := TX2) (N := 7) hx hb hts uX2 hown hK.1 hP 0 rfl rfl 3 (by decide) (hts _ q_160) (fun _ h9 => h9) rfl dX2_go_32 ?_
    refine lv_iload_n hx hb dX2_go_35 rfl (lv_at hl 0 rfl) ?_
    refine zc_V (As := [.int (iI X.1)]) (rest := []) (ws := [(tt, .inr (2, [.ref fl, .int (iI lim), .ref s1, .ref s2, .int (iI bs), .int (iI P), .int (iI sm)])), (fl, .inr (0, [.int (iI C), .int (iI R), .ref pn, .int (iI np)])), (pn, .inl (cI, 49, .inl (aI gn))), (s1, .inr (1, [.ref d1, .ref r1, .int (iI c1)])), (d1, .inl (cI, 16807, .inl (aI g1))), (s2, .inr (1, [.ref d2, .ref r2, .int (iI c9)])), (d2, .inl (cI, 16807, .inl (aI g9))), (r2, .inl (cI, 9163, .inl (aI h9)))]) (n := 1) hx hb (hml.trans hl.1.symm) hts hown hK hP (c_X1_distanceOf l D cI cJ s2 d2 r2 c9 g9 X.2.2.1 X.1 hsp.1 (by omega) (by omega)) (gd_V q_202 q_154 q_155 q_2 q_156) (by decide +kernel) rfl ⟨Nat.le_of_ble_eq_true rfl, Nat.le_of_ble_eq_true rfl⟩ ⟨Nat.le_of_ble_eq_true rfl, Nat.le_of_ble_eq_true rfl⟩ [5, 6] rfl 5 (ci := 1) rfl rfl rfl rfl (Nat.le_of_ble_eq_true rfl) dX2_go_36 (fun r_7 hr_7 => ?_)
    subst r_7
    refine lv_istore (lv' := [(4, .int (iI (X.2.2.1 X.1))), (3, .int (iI X.1)), (0, .ref tt), (1, .int (iI a)), (2, .int (iI b))]) hx hb dX2_go_39 hl (by decide) rfl (fun ls hl => ?_)
    refine lv_aload_n hx hb dX2_go_41 rfl (lv_at hl 2 rfl) ?_
    refine lv_iload_n hx hb dX2_go_42 rfl (lv_at hl 1 rfl) ?_
    refine va_put (D := D) (ci := 2) (v := .int (iI X.1)) (ty := .int) (C := RX2) (T := TX2) (N := 7) hx hb hts uX2 tyX2 tyX2_ok nmX2 hown hK.1 hP hD hS 0 rfl rfl 5 (by decide) (hts _ q_162) (fun _ h9 => h9) rfl (by decide +kernel) rfl rfl (Nat.le_of_ble_eq_true rfl) dX2_go_43 (fun H locs hP hD hS => ?_)
    have hP : va_P D vwCl [(tt, .inr (2, [.ref fl, .int (iI lim), .ref s1, .ref s2, .int (iI bs), .int (iI X.1), .int (iI sm)])), (fl, .inr (0, [.int (iI C), .int (iI R), .ref pn, .int (iI np)])), (pn, .inl (cI, 49, .inl (aI gn))), (s1, .inr (1, [.ref d1, .ref r1, .int (iI c1)])), (d1, .inl (cI, 16807, .inl (aI g1))), (s2, .inr (1, [.ref d2, .ref r2, .int (iI c9)])), (d2, .inl (cI, 16807, .inl (aI g9))), (r2, .inl (cI, 9163, .inl (aI h9)))] H := hP
    have hD : va_D A [(tt, .inr (2, [.ref fl, .int (iI lim), .ref s1, .ref s2, .int (iI bs), .int (iI X.1), .int (iI sm)])), (fl, .inr (0, [.int (iI C), .int (iI R), .ref pn, .int (iI np)])), (pn, .inl (cI, 49, .inl (aI gn))), (s1, .inr (1, [.ref d1, .ref r1, .int (iI c1)])), (d1, .inl (cI, 16807, .inl (aI g1))), (s2, .inr (1, [.ref d2, .ref r2, .int (iI c9)])), (d2, .inl (cI, 16807, .inl (aI g9))), (r2, .inl (cI, 9163, .inl (aI h9)))] := hD
    refine lv_aload_n hx hb dX2_go_46 rfl (lv_at hl 2 rfl) ?_
    refine lv_dup hx hb dX2_go_47 rfl ?_
    refine va_get (D := D) (ci := 2) (v := .int (iI sm)) (C := RX2) (T := TX2) (N := 7) hx hb hts uX2 hown hK.1 hP 0 rfl rfl 6 (by decide) (hts _ q_163) (fun _ h9 => h9) rfl dX2_go_48 ?_
    refine lv_iload hx hb dX2_go_51 (lv_at hl 0 rfl) ?_
    refine zv_iadd hx hb dX2_go_53 ?_
    refine va_put (D := D) (ci := 2) (v := .int (iI (sm + (X.2.2.1 X.1)))) (ty := .int) (C := RX2) (T := TX2) (N := 7) hx hb hts uX2 tyX2 tyX2_ok nmX2 hown hK.1 hP hD hS 0 rfl rfl 6 (by decide) (hts _ q_163) (fun _ h9 => h9) rfl (by decide +kernel) rfl rfl (Nat.le_of_ble_eq_true rfl) dX2_go_54 (fun H locs hP hD hS => ?_)
    have hP : va_P D vwCl [(tt, .inr (2, [.ref fl, .int (iI lim), .ref s1, .ref s2, .int (iI bs), .int (iI X.1), .int (iI (sm + (X.2.2.1 X.1)))])), (fl, .inr (0, [.int (iI C), .int (iI R), .ref pn, .int (iI np)])), (pn, .inl (cI, 49, .inl (aI gn))), (s1, .inr (1, [.ref d1, .ref r1, .int (iI c1)])), (d1, .inl (cI, 16807, .inl (aI g1))), (s2, .inr (1, [.ref d2, .ref r2, .int (iI c9)])), (d2, .inl (cI, 16807, .inl (aI g9))), (r2, .inl (cI, 9163, .inl (aI h9)))] H := hP
    have hD : va_D A [(tt, .inr (2, [.ref fl, .int (iI lim), .ref s1, .ref s2, .int (iI bs), .int (iI X.1), .int (iI (sm + (X.2.2.1 X.1)))])), (fl, .inr (0, [.int (iI C), .int (iI R), .ref pn, .int (iI np)])), (pn, .inl (cI, 49, .inl (aI gn))), (s1, .inr (1, [.ref d1, .ref r1, .int (iI c1)])), (d1, .inl (cI, 16807, .inl (aI g1))), (s2, .inr (1, [.ref d2, .ref r2, .int (iI c9)])), (d2, .inl (cI, 16807, .inl (aI g9))), (r2, .inl (cI, 9163, .inl (aI h9)))] := hD
    refine lv_iload hx hb dX2_go_57 (lv_at hl 0 rfl) ?_
    exact vx_ret (MM_iret (X.1, (sm + (X.2.2.1 X.1)), g9, h9, c9) hx hb hr hlk hP hD hS (Nat.le_of_ble_eq_true rfl) (Nat.le_of_ble_eq_true rfl) dX2_go_59 (by dsimp only; rw [← hX]; exact ⟨hsq, by assumption, rfl, rfl, rfl⟩))
  · exact zx_T hx hb hl0 hown hts xt_NS (List.mem_of_getElem? (i := 4) rfl) hE (P, sm, g9, h9, c9) hP hD hS (by dsimp only; exact ⟨Or.inr ⟨rfl, hsq, by rw [← hX]; assumption⟩, rfl, rfl⟩) (hml.trans hl.1.symm) dX2_go_21 dX2_go_24 dX2_go_25 dX2_go_27 dX2_go_30 hout (Nat.le_of_ble_eq_true rfl) (Nat.le_of_ble_eq_true rfl) (Nat.le_of_ble_eq_true rfl) (Nat.le_of_ble_eq_true rfl) hlk (Nat.le_of_ble_eq_true rfl) (Nat.le_of_ble_eq_true rfl)
set_option maxRecDepth 100000 in
set_option maxHeartbeats 4000000 in
theorem c_X2_pillar (l : Launch) (hl0 : l.stackTraces = false) (D : va_G) (cI cJ : ClassId) (tt fl s1 s2 pn d1 r1 : Nat) (lim bs P sm C R np c1 : Int) (gn g1 h1 : Nat → Int) (N : Int → Int) (a b : Int) (hF : FlOK C R np N gn) (hbg : GdZ C R N (bs * 343)) (hPb : 0 ≤ P ∧ P < 16807) (ha1 : -2147483648 ≤ a) (ha2 : a < 2147483648) (hb1 : -2147483648 ≤ b) (hb2 : b < 2147483648) (sz : Nat) : VMi l yX2_pillar (.code yX2_pillar cX2_pillar 6 (some .int)) 10 2 12 [.ref tt, .int (iI a), .int (iI b)] D cI cJ [(tt, .inr (2, [.ref fl, .int (iI lim), .ref s1, .ref s2, .int (iI bs), .int (iI P), .int (iI sm)])), (fl, .inr (0, [.int (iI C), .int (iI R), .ref pn, .int (iI np)])), (pn, .inl (cI, 49, .inl (aI gn))), (s1, .inr (1, [.ref d1, .ref r1, .int (iI c1)])), (d1, .inl (cI, 16807, .inl (aI g1))), (r1, .inl (cI, 9163, .inl (aI h1)))] sz (fun (r : Int) (u : Int × (Nat → Int) × (Nat → Int) × (Nat → Int) × Int) => (0 ≤ a ∧ a < C ∧ 0 ≤ b ∧ b < R) ∧ ¬ (np = 3 ∨ P ≠ bs * 343 ∨ a * 7 + b = bs ∨ N (a * 7 + b) ≠ -1) ∧ r = np ∧ u.1 = np + 1 ∧ u.2.1 = updZ gn (a * 7 + b).toNat np ∧ SpOK (BF (aftZ C R (NZ N (a * 7 + b) np)) (bs * 343)) u.2.2.1 u.2.2.2.1 u.2.2.2.2) (fun u : Int × (Nat → Int) × (Nat → Int) × (Nat → Int) × Int => [(tt, .inr (2, [.ref fl, .int (iI lim), .ref s1, .ref s2, .int (iI bs), .int (iI P), .int (iI sm)])), (fl, .inr (0, [.int (iI C), .int (iI R), .ref pn, .int (iI u.1)])), (pn, .inl (cI, 49, .inl (aI u.2.1))), (s1, .inr (1, [.ref d1, .ref r1, .int (iI u.2.2.2.2)])), (d1, .inl (cI, 16807, .inl (aI u.2.2.1))), (r1, .inl (cI, 9163, .inl (aI u.2.2.2.1)))]) (fun (E : String) (u : Int × (Nat → Int) × (Nat → Int) × (Nat → Int) × Int) => ((E = eIO ∧ ¬ (0 ≤ a ∧ a < C ∧ 0 ≤ b ∧ b < R)) ∨ (E = eIS ∧ (0 ≤ a ∧ a < C ∧ 0 ≤ b ∧ b < R) ∧ (np = 3 ∨ P ≠ bs * 343 ∨ a * 7 + b = bs ∨ N (a * 7 + b) ≠ -1))) ∧ u.1 = np ∧ u.2.1 = gn ∧ u.2.2.1 = g1 ∧ u.2.2.2.1 = h1 ∧ u.2.2.2.2 = c1) := by
  obtain ⟨hC1, hC2, hR1, hR2, hp1, hp2, -, -⟩ := id hF
  obtain ⟨hg0, hg1, -⟩ := id hbg
  obtain ⟨hP1, hP2⟩ := id hPb
  refine VM_of (Qc := fun A => QMi D A (fun (r : Int) (u : Int × (Nat → Int) × (Nat → Int) × (Nat → Int) × Int) => (0 ≤ a ∧ a < C ∧ 0 ≤ b ∧ b < R) ∧ ¬ (np = 3 ∨ P ≠ bs * 343 ∨ a * 7 + b = bs ∨ N (a * 7 + b) ≠ -1) ∧ r = np ∧ u.1 = np + 1 ∧ u.2.1 = updZ gn (a * 7 + b).toNat np ∧ SpOK (BF (aftZ C R (NZ N (a * 7 + b) np)) (bs * 343)) u.2.2.1 u.2.2.2.1 u.2.2.2.2) (fun u : Int × (Nat → Int) × (Nat → Int) × (Nat → Int) × Int => [(tt, .inr (2, [.ref fl, .int (iI lim), .ref s1, .ref s2, .int (iI bs), .int (iI P), .int (iI sm)])), (fl, .inr (0, [.int (iI C), .int (iI R), .ref pn, .int (iI u.1)])), (pn, .inl (cI, 49, .inl (aI u.2.1))), (s1, .inr (1, [.ref d1, .ref r1, .int (iI u.2.2.2.2)])), (d1, .inl (cI, 16807, .inl (aI u.2.2.1))), (r1, .inl (cI, 9163, .inl (aI u.2.2.2.1)))])) (XC := fun A => XQ D A (fun u : Int × (Nat → Int) × (Nat → Int) × (Nat → Int) × Int => [(tt, .inr (2, [.ref fl, .int (iI lim), .ref s1, .ref s2, .int (iI bs), .int (iI P), .int (iI sm)])), (fl, .inr (0, [.int (iI C), .int (iI R), .ref pn, .int (iI u.1)])), (pn, .inl (cI, 49, .inl (aI u.2.1))), (s1, .inr (1, [.ref d1, .ref r1, .int (iI u.2.2.2.2)])), (d1, .inl (cI, 16807, .inl (aI u.2.2.1))), (r1, .inl (cI, 9163, .inl (aI u.2.2.2.1)))]) (fun (E : String) (u : Int × (Nat → Int) × (Nat → Int) × (Nat → Int) × Int) => ((E = eIO ∧ ¬ (0 ≤ a ∧ a < C ∧ 0 ≤ b ∧ b < R)) ∨ (E = eIS ∧ (0 ≤ a ∧ a < C ∧ 0 ≤ b ∧ b < R) ∧ (np = 3 ∨ P ≠ bs * 343 ∨ a * 7 + b = bs ∨ N (a * 7 + b) ≠ -1))) ∧ u.1 = np ∧ u.2.1 = gn ∧ u.2.2.1 = g1 ∧ u.2.2.2.1 = h1 ∧ u.2.2.2.2 = c1)) (by decide) rfl (Nat.le_of_ble_eq_true rfl) (fun p e s m below meth c ls A hx hb hr hts hown hlk hml hin hK hP hD hA hS hl hE hout => ?_)
  have hl : lv_has ls 6 [(0, .ref tt), (1, .int (iI a)), (2, .int (iI b))] := hl
  refine lv_aload_n hx hb dX2_pillar_0 rfl (lv_at hl 0 rfl) ?_
  refine lv_iload_n hx hb dX2_pillar_1 rfl (lv_at hl 1 rfl) ?_
  refine lv_iload_n hx hb dX2_pillar_2 rfl (lv_at hl 2 rfl) ?_
  refine zx_Vv (As := [.int (iI a), .int (iI b)]) (rest := []) (ws := [(tt, .inr (2, [.ref fl, .int (iI lim), .ref s1, .ref s2, .int (iI bs), .int (iI P), .int (iI sm)])), (fl, .inr (0, [.int (iI C), .int (iI R), .ref pn, .int (iI np)])), (pn, .inl (cI, 49, .inl (aI gn))), (s1, .inr (1, [.ref d1, .ref r1, .int (iI c1)])), (d1, .inl (cI, 16807, .inl (aI g1))), (r1, .inl (cI, 9163, .inl (aI h1)))]) (wr := [(s1, .inr (1, [.ref d1, .ref r1, .int (iI c1)])), (d1, .inl (cI, 16807, .inl (aI g1))), (r1, .inl (cI, 9163, .inl (aI h1)))]) (n := 2) hx hb (hml.trans hl.1.symm) hts hown hK hP hD hS hA hE (c_X2_requireSquare l hl0 D cI cJ tt fl s1 s2 pn lim bs P sm C R np gn N a b hF (by omega) (by omega) (by omega) (by omega) _) (gd_V q_244 q_246 q_1009 q_1 q_247) (by decide +kernel) rfl ⟨Nat.le_of_ble_eq_true rfl, Nat.le_of_ble_eq_true rfl⟩ ⟨Nat.le_of_ble_eq_true rfl, Nat.le_of_ble_eq_true rfl⟩ [0, 1, 2] [3, 4, 5] rfl rfl (by decide) (by decide) (by decide) 0 (ci := 2) rfl rfl rfl rfl (Nat.le_of_ble_eq_true rfl) dX2_pillar_3 (fun E9 ce9 q9 u H locs hpx hP hD hS hce hcv hcl => ?_) (fun u H locs hq_1 hP hD hS => ?_)
  · have hP := hP.sub (ws' := [(tt, .inr (2, [.ref fl, .int (iI lim), .ref s1, .ref s2, .int (iI bs), .int (iI P), .int (iI sm)])), (fl, .inr (0, [.int (iI C), .int (iI R), .ref pn, .int (iI np)])), (pn, .inl (cI, 49, .inl (aI gn))), (s1, .inr (1, [.ref d1, .ref r1, .int (iI c1)])), (d1, .inl (cI, 16807, .inl (aI g1))), (r1, .inl (cI, 9163, .inl (aI h1)))]) [3, 4, 5, 0, 1, 2] rfl
    have hD := hD.sub (ws' := [(tt, .inr (2, [.ref fl, .int (iI lim), .ref s1, .ref s2, .int (iI bs), .int (iI P), .int (iI sm)])), (fl, .inr (0, [.int (iI C), .int (iI R), .ref pn, .int (iI np)])), (pn, .inl (cI, 49, .inl (aI gn))), (s1, .inr (1, [.ref d1, .ref r1, .int (iI c1)])), (d1, .inl (cI, 16807, .inl (aI g1))), (r1, .inl (cI, 9163, .inl (aI h1)))]) [3, 4, 5, 0, 1, 2] (by decide) rfl
    try dsimp only at hpx
    exact zx_O (np, gn, g1, h1, c1) hP hD hS (by dsimp only; exact ⟨Or.inl hpx, rfl, rfl, rfl, rfl, rfl⟩) hout hlk hce hcv hcl (Nat.le_of_ble_eq_true rfl) (Nat.le_of_ble_eq_true rfl)
  have hP := hP.sub (ws' := [(tt, .inr (2, [.ref fl, .int (iI lim), .ref s1, .ref s2, .int (iI bs), .int (iI P), .int (iI sm)])), (fl, .inr (0, [.int (iI C), .int (iI R), .ref pn, .int (iI np)])), (pn, .inl (cI, 49, .inl (aI gn))), (s1, .inr (1, [.ref d1, .ref r1, .int (iI c1)])), (d1, .inl (cI, 16807, .inl (aI g1))), (r1, .inl (cI, 9163, .inl (aI h1)))]) [3, 4, 5, 0, 1, 2] rfl
  have hD := hD.sub (ws' := [(tt, .inr (2, [.ref fl, .int (iI lim), .ref s1, .ref s2, .int (iI bs), .int (iI P), .int (iI sm)])), (fl, .inr (0, [.int (iI C), .int (iI R), .ref pn, .int (iI np)])), (pn, .inl (cI, 49, .inl (aI gn))), (s1, .inr (1, [.ref d1, .ref r1, .int (iI c1)])), (d1, .inl (cI, 16807, .inl (aI g1))), (r1, .inl (cI, 9163, .inl (aI h1)))]) [3, 4, 5, 0, 1, 2] (by decide) rfl
  try dsimp only at hq_1
  have hsq := hq_1
  refine lv_iload_n hx hb dX2_pillar_6 rfl (lv_at hl 1 rfl) ?_
  refine lv_iload_n hx hb dX2_pillar_7 rfl (lv_at hl 2 rfl) ?_
  refine zc_S (As := [.int (iI a), .int (iI b)]) (rest := []) (ws := [(tt, .inr (2, [.ref fl, .int (iI lim), .ref s1, .ref s2, .int (iI bs), .int (iI P), .int (iI sm)])), (fl, .inr (0, [.int (iI C), .int (iI R), .ref pn, .int (iI np)])), (pn, .inl (cI, 49, .inl (aI gn))), (s1, .inr (1, [.ref d1, .ref r1, .int (iI c1)])), (d1, .inl (cI, 16807, .inl (aI g1))), (r1, .inl (cI, 9163, .inl (aI h1)))]) (n := 2) hx hb (hml.trans hl.1.symm) hts hown hK hP (c_X2_squareAt l D cI cJ a b) (gd_S q_70 q_71 q_1 q_72) (by decide +kernel) rfl ⟨Nat.le_of_ble_eq_true rfl, Nat.le_of_ble_eq_true rfl⟩ ⟨Nat.le_of_ble_eq_true rfl, Nat.le_of_ble_eq_true rfl⟩ [] rfl rfl (Nat.le_of_ble_eq_true rfl) dX2_pillar_8 (fun r_3 hr_3 => ?_)
  subst r_3
  refine lv_istore_n (lv' := [(3, .int (iI (a * 7 + b))), (0, .ref tt), (1, .int (iI a)), (2, .int (iI b))]) hx hb dX2_pillar_11 rfl hl (by decide) rfl (fun ls hl => ?_)
  refine lv_aload_n hx hb dX2_pillar_12 rfl (lv_at hl 1 rfl) ?_
  refine va_get (D := D) (ci := 2) (v := .int (iI P)) (C := RX2) (T := TX2) (N := 7) hx hb hts uX2 hown hK.1 hP 0 rfl rfl 5 (by decide) (hts _ q_162) (fun _ h9 => h9) rfl dX2_pillar_13 ?_
  refine lv_aload_n hx hb dX2_pillar_16 rfl (lv_at hl 1 rfl) ?_
  refine va_get (D := D) (ci := 2) (v := .int (iI bs)) (C := RX2) (T := TX2) (N := 7) hx hb hts uX2 hown hK.1 hP 0 rfl rfl 4 (by decide) (hts _ q_161) (fun _ h9 => h9) rfl dX2_pillar_17 ?_
  refine zv_iconst hx hb dX2_pillar_20 ?_
  refine zc_S (As := [.int (iI bs), .int (iI 0)]) (rest := [.int (iI P)]) (ws := [(tt, .inr (2, [.ref fl, .int (iI lim), .ref s1, .ref s2, .int (iI bs), .int (iI P), .int (iI sm)])), (fl, .inr (0, [.int (iI C), .int (iI R), .ref pn, .int (iI np)])), (pn, .inl (cI, 49, .inl (aI gn))), (s1, .inr (1, [.ref d1, .ref r1, .int (iI c1)])), (d1, .inl (cI, 16807, .inl (aI g1))), (r1, .inl (cI, 9163, .inl (aI h1)))]) (n := 2) hx hb (hml.trans hl.1.symm) hts hown hK hP (c_X2_placeOf l D cI cJ bs 0) (gd_S q_73 q_74 q_1 q_75) (by decide +kernel) rfl ⟨Nat.le_of_ble_eq_true rfl, Nat.le_of_ble_eq_true rfl⟩ ⟨Nat.le_of_ble_eq_true rfl, Nat.le_of_ble_eq_true rfl⟩ [] rfl rfl (Nat.le_of_ble_eq_true rfl) dX2_pillar_21 (fun r_4 hr_4 => ?_)
  subst r_4
  refine zv_top (y := (bs * 343)) (by omega) ?_
  refine zv_icmp_eq hx hb dX2_pillar_24 (tgt := 31) (by decide) ⟨by omega, by omega⟩ ⟨by omega, by omega⟩ (fun c_5 => ?_) (fun c_5 => ?_)
  · refine zv_iconst hx hb dX2_pillar_31 ?_
    refine lv_istore (lv' := [(4, .int (iI 0)), (3, .int (iI (a * 7 + b))), (0, .ref tt), (1, .int (iI a)), (2, .int (iI b))]) hx hb dX2_pillar_32 hl (by decide) rfl (fun ls hl => ?_)
    refine lv_iload hx hb dX2_pillar_34 (lv_at hl 0 rfl) ?_
    refine zv_if_ne hx hb dX2_pillar_36 (tgt := 68) (by decide) ⟨by omega, by omega⟩ (fun c_6 => by exfalso; omega) (fun c_6 => ?_)
    refine lv_iload_n hx hb dX2_pillar_39 rfl (lv_at hl 1 rfl) ?_
    refine lv_aload_n hx hb dX2_pillar_40 rfl (lv_at hl 2 rfl) ?_
    refine va_get (D := D) (ci := 2) (v := .int (iI bs)) (C := RX2) (T := TX2) (N := 7) hx hb hts uX2 hown hK.1 hP 0 rfl rfl 4 (by decide) (hts _ q_161) (fun _ h9 => h9) rfl dX2_pillar_41 ?_
    refine zv_icmp_eq hx hb dX2_pillar_44 (tgt := 68) (by decide) ⟨by omega, by omega⟩ ⟨by omega, by omega⟩ (fun c_7 => ?_) (fun c_7 => ?_)
    · exact zx_T hx hb hl0 hown hts xt_IS (List.mem_of_getElem? (i := 0) rfl) hE (np, gn, g1, h1, c1) hP hD hS (by dsimp only; exact ⟨Or.inr ⟨rfl, hsq, by omega⟩, rfl, rfl, rfl, rfl, rfl⟩) (hml.trans hl.1.symm) dX2_pillar_68 dX2_pillar_71 dX2_pillar_72 dX2_pillar_74 dX2_pillar_77 hout (Nat.le_of_ble_eq_true rfl) (Nat.le_of_ble_eq_true rfl) (Nat.le_of_ble_eq_true rfl) (Nat.le_of_ble_eq_true rfl) hlk (Nat.le_of_ble_eq_true rfl) (Nat.le_of_ble_eq_true rfl)
    · refine lv_aload_n hx hb dX2_pillar_47 rfl (lv_at hl 2 rfl) ?_
      refine va_get (D := D) (ci := 2) (v := .ref fl) (C := RX2) (T := TX2) (N := 7) hx hb hts uX2 hown hK.1 hP 0 rfl rfl 0 (by decide) (hts _ q_157) (fun _ h9 => h9) rfl dX2_pillar_48 ?_
      refine zc_V (As := []) (rest := []) (ws := [(tt, .inr (2, [.ref fl, .int (iI lim), .ref s1, .ref s2, .int (iI bs), .int (iI P), .int (iI sm)])), (fl, .inr (0, [.int (iI C), .int (iI R), .ref pn, .int (iI np)])), (pn, .inl (cI, 49, .inl (aI gn))), (s1, .inr (1, [.ref d1, .ref r1, .int (iI c1)])), (d1, .inl (cI, 16807, .inl (aI g1))), (r1, .inl (cI, 9163, .inl (aI h1)))]) (n := 0) hx hb (hml.trans hl.1.symm) hts hown hK hP (c_X0_isFull l D cI cJ fl pn C R np gn N hF) (gd_V q_318 q_319 q_320 q_3 q_321) (by decide +kernel) rfl ⟨Nat.le_of_ble_eq_true rfl, Nat.le_of_ble_eq_true rfl⟩ ⟨Nat.le_of_ble_eq_true rfl, Nat.le_of_ble_eq_true rfl⟩ [1, 2] rfl 1 (ci := 0) rfl rfl rfl rfl (Nat.le_of_ble_eq_true rfl) dX2_pillar_51 (fun r_8 hr_8 => ?_)
      refine zv_if_ne hx hb dX2_pillar_54 (tgt := 68) (by decide) ⟨by omega, by omega⟩ (fun c_9 => ?_) (fun c_9 => ?_)
      · exact zx_T hx hb hl0 hown hts xt_IS (List.mem_of_getElem? (i := 0) rfl) hE (np, gn, g1, h1, c1) hP hD hS (by dsimp only; exact ⟨Or.inr ⟨rfl, hsq, by omega⟩, rfl, rfl, rfl, rfl, rfl⟩) (hml.trans hl.1.symm) dX2_pillar_68 dX2_pillar_71 dX2_pillar_72 dX2_pillar_74 dX2_pillar_77 hout (Nat.le_of_ble_eq_true rfl) (Nat.le_of_ble_eq_true rfl) (Nat.le_of_ble_eq_true rfl) (Nat.le_of_ble_eq_true rfl) hlk (Nat.le_of_ble_eq_true rfl) (Nat.le_of_ble_eq_true rfl)
      · refine lv_aload_n hx hb dX2_pillar_57 rfl (lv_at hl 2 rfl) ?_
        refine va_get (D := D) (ci := 2) (v := .ref fl) (C := RX2) (T := TX2) (N := 7) hx hb hts uX2 hown hK.1 hP 0 rfl rfl 0 (by decide) (hts _ q_157) (fun _ h9 => h9) rfl dX2_pillar_58 ?_
        refine lv_iload_n hx hb dX2_pillar_61 rfl (lv_at hl 1 rfl) ?_
        refine zc_V (As := [.int (iI (a * 7 + b))]) (rest := []) (ws := [(tt, .inr (2, [.ref fl, .int (iI lim), .ref s1, .ref s2, .int (iI bs), .int (iI P), .int (iI sm)])), (fl, .inr (0, [.int (iI C), .int (iI R), .ref pn, .int (iI np)])), (pn, .inl (cI, 49, .inl (aI gn))), (s1, .inr (1, [.ref d1, .ref r1, .int (iI c1)])), (d1, .inl (cI, 16807, .inl (aI g1))), (r1, .inl (cI, 9163, .inl (aI h1)))]) (n := 1) hx hb (hml.trans hl.1.symm) hts hown hK hP (c_X0_isPillar l D cI cJ fl pn C R np gn N (a * 7 + b) hF (by omega) (by omega)) (gd_V q_322 q_123 q_124 q_3 q_125) (by decide +kernel) rfl ⟨Nat.le_of_ble_eq_true rfl, Nat.le_of_ble_eq_true rfl⟩ ⟨Nat.le_of_ble_eq_true rfl, Nat.le_of_ble_eq_true rfl⟩ [1, 2] rfl 1 (ci := 0) rfl rfl rfl rfl (Nat.le_of_ble_eq_true rfl) dX2_pillar_62 (fun r_10 hr_10 => ?_)
        refine zv_if_eq hx hb dX2_pillar_65 (tgt := 78) (by decide) ⟨by omega, by omega⟩ (fun c_11 => ?_) (fun c_11 => ?_)
        · refine lv_aload_n hx hb dX2_pillar_78 rfl (lv_at hl 2 rfl) ?_
          refine va_get (D := D) (ci := 2) (v := .ref fl) (C := RX2) (T := TX2) (N := 7) hx hb hts uX2 hown hK.1 hP 0 rfl rfl 0 (by decide) (hts _ q_157) (fun _ h9 => h9) rfl dX2_pillar_79 ?_
          refine lv_iload_n hx hb dX2_pillar_82 rfl (lv_at hl 1 rfl) ?_
          refine zm_Vi (As := [.int (iI (a * 7 + b))]) (rest := []) (ws := [(tt, .inr (2, [.ref fl, .int (iI lim), .ref s1, .ref s2, .int (iI bs), .int (iI P), .int (iI sm)])), (fl, .inr (0, [.int (iI C), .int (iI R), .ref pn, .int (iI np)])), (pn, .inl (cI, 49, .inl (aI gn))), (s1, .inr (1, [.ref d1, .ref r1, .int (iI c1)])), (d1, .inl (cI, 16807, .inl (aI g1))), (r1, .inl (cI, 9163, .inl (aI h1)))]) (wr := [(tt, .inr (2, [.ref fl, .int (iI lim), .ref s1, .ref s2, .int (iI bs), .int (iI P), .int (iI sm)])), (s1, .inr (1, [.ref d1, .ref r1, .int (iI c1)])), (d1, .inl (cI, 16807, .inl (aI g1))), (r1, .inl (cI, 9163, .inl (aI h1)))]) (n := 1) hx hb (hml.trans hl.1.symm) hts hown hK hP hD hS hA (c_X0_setPillar l D cI cJ fl pn C R np gn N (a * 7 + b) hF (by omega) (by omega) (by omega) _) (gd_V q_339 q_340 q_341 q_3 q_342) (by decide +kernel) rfl ⟨Nat.le_of_ble_eq_true rfl, Nat.le_of_ble_eq_true rfl⟩ ⟨Nat.le_of_ble_eq_true rfl, Nat.le_of_ble_eq_true rfl⟩ [1, 2] [0, 3, 4, 5] rfl rfl (by decide) (by decide) (by decide) 1 (ci := 0) rfl rfl rfl rfl (Nat.le_of_ble_eq_true rfl) dX2_pillar_83 (fun r_13 u H locs hq_12 hP hD hS => ?_)
          obtain ⟨n9, f9⟩ := u
          have hP := hP.sub (ws' := [(tt, .inr (2, [.ref fl, .int (iI lim), .ref s1, .ref s2, .int (iI bs), .int (iI P), .int (iI sm)])), (fl, .inr (0, [.int (iI C), .int (iI R), .ref pn, .int (iI n9)])), (pn, .inl (cI, 49, .inl (aI f9))), (s1, .inr (1, [.ref d1, .ref r1, .int (iI c1)])), (d1, .inl (cI, 16807, .inl (aI g1))), (r1, .inl (cI, 9163, .inl (aI h1)))]) [0, 4, 5, 1, 2, 3] rfl
          have hD := hD.sub (ws' := [(tt, .inr (2, [.ref fl, .int (iI lim), .ref s1, .ref s2, .int (iI bs), .int (iI P), .int (iI sm)])), (fl, .inr (0, [.int (iI C), .int (iI R), .ref pn, .int (iI n9)])), (pn, .inl (cI, 49, .inl (aI f9))), (s1, .inr (1, [.ref d1, .ref r1, .int (iI c1)])), (d1, .inl (cI, 16807, .inl (aI g1))), (r1, .inl (cI, 9163, .inl (aI h1)))]) [0, 4, 5, 1, 2, 3] (by decide) rfl
          try dsimp only at hq_12
          obtain ⟨hr1, hn9, hf9⟩ := hq_12
          have hF2 : FlOK C R n9 (NZ N (a * 7 + b) np) f9 := by rw [hn9, hf9]; exact FlOK_set hF (q := a * 7 + b) (by omega) (by omega) (by omega)
          have hb2 := GdZ_set (k := np) hbg (q := a * 7 + b) (by omega)
          refine zv_top (y := np) (hr1) ?_
          refine lv_istore (lv' := [(5, .int (iI np)), (4, .int (iI 0)), (3, .int (iI (a * 7 + b))), (0, .ref tt), (1, .int (iI a)), (2, .int (iI b))]) hx hb dX2_pillar_86 hl (by decide) rfl (fun ls hl => ?_)
          refine lv_aload_n hx hb dX2_pillar_88 rfl (lv_at hl 3 rfl) ?_
          refine zm_Vv (As := []) (rest := []) (ws := [(tt, .inr (2, [.ref fl, .int (iI lim), .ref s1, .ref s2, .int (iI bs), .int (iI P), .int (iI sm)])), (fl, .inr (0, [.int (iI C), .int (iI R), .ref pn, .int (iI n9)])), (pn, .inl (cI, 49, .inl (aI f9))), (s1, .inr (1, [.ref d1, .ref r1, .int (iI c1)])), (d1, .inl (cI, 16807, .inl (aI g1))), (r1, .inl (cI, 9163, .inl (aI h1)))]) (wr := []) (n := 0) hx hb (hml.trans hl.1.symm) hts hown hK hP hD hS hA (c_X2_measureLengths l D cI cJ tt fl s1 s2 pn d1 r1 lim bs P sm C R n9 c1 f9 g1 h1 (NZ N (a * 7 + b) np) hF2 hb2 _) (gd_V q_76 q_78 q_1000 q_1 q_79) (by decide +kernel) rfl ⟨Nat.le_of_ble_eq_true rfl, Nat.le_of_ble_eq_true rfl⟩ ⟨Nat.le_of_ble_eq_true rfl, Nat.le_of_ble_eq_true rfl⟩ [0, 1, 2, 3, 4, 5] [] rfl rfl (by decide) (by decide) (by decide) 0 (ci := 2) rfl rfl rfl rfl (Nat.le_of_ble_eq_true rfl) dX2_pillar_89 (fun u H locs hq_14 hP hD hS => ?_)
          obtain ⟨g9, h9, c9⟩ := u
          have hP := hP.sub (ws' := [(tt, .inr (2, [.ref fl, .int (iI lim), .ref s1, .ref s2, .int (iI bs), .int (iI P), .int (iI sm)])), (fl, .inr (0, [.int (iI C), .int (iI R), .ref pn, .int (iI n9)])), (pn, .inl (cI, 49, .inl (aI f9))), (s1, .inr (1, [.ref d1, .ref r1, .int (iI c9)])), (d1, .inl (cI, 16807, .inl (aI g9))), (r1, .inl (cI, 9163, .inl (aI h9)))]) [0, 1, 2, 3, 4, 5] rfl
          have hD := hD.sub (ws' := [(tt, .inr (2, [.ref fl, .int (iI lim), .ref s1, .ref s2, .int (iI bs), .int (iI P), .int (iI sm)])), (fl, .inr (0, [.int (iI C), .int (iI R), .ref pn, .int (iI n9)])), (pn, .inl (cI, 49, .inl (aI f9))), (s1, .inr (1, [.ref d1, .ref r1, .int (iI c9)])), (d1, .inl (cI, 16807, .inl (aI g9))), (r1, .inl (cI, 9163, .inl (aI h9)))]) [0, 1, 2, 3, 4, 5] (by decide) rfl
          try dsimp only at hq_14
          have hms := hq_14
          refine lv_iload hx hb dX2_pillar_92 (lv_at hl 0 rfl) ?_
          exact vx_ret (MM_iret (n9, f9, g9, h9, c9) hx hb hr hlk hP hD hS (Nat.le_of_ble_eq_true rfl) (Nat.le_of_ble_eq_true rfl) dX2_pillar_94 (by dsimp only; exact ⟨hsq, by omega, rfl, hn9, hf9, hms⟩))
        · exact zx_T hx hb hl0 hown hts xt_IS (List.mem_of_getElem? (i := 0) rfl) hE (np, gn, g1, h1, c1) hP hD hS (by dsimp only; exact ⟨Or.inr ⟨rfl, hsq, by omega⟩, rfl, rfl, rfl, rfl, rfl⟩) (hml.trans hl.1.symm) dX2_pillar_68 dX2_pillar_71 dX2_pillar_72 dX2_pillar_74 dX2_pillar_77 hout (Nat.le_of_ble_eq_true rfl) (Nat.le_of_ble_eq_true rfl) (Nat.le_of_ble_eq_true rfl) (Nat.le_of_ble_eq_true rfl) hlk (Nat.le_of_ble_eq_true rfl) (Nat.le_of_ble_eq_true rfl)
  · refine zv_iconst hx hb dX2_pillar_27 ?_
    refine lv_goto (tgt := 32) hx hb dX2_pillar_28 (by decide) ?_
    refine lv_istore (lv' := [(4, .int (iI 1)), (3, .int (iI (a * 7 + b))), (0, .ref tt), (1, .int (iI a)), (2, .int (iI b))]) hx hb dX2_pillar_32 hl (by decide) rfl (fun ls hl => ?_)
    refine lv_iload hx hb dX2_pillar_34 (lv_at hl 0 rfl) ?_
    refine zv_if_ne hx hb dX2_pillar_36 (tgt := 68) (by decide) ⟨by omega, by omega⟩ (fun c_16 => ?_) (fun c_16 => by exfalso; omega)
    exact zx_T hx hb hl0 hown hts xt_IS (List.mem_of_getElem? (i := 0) rfl) hE (np, gn, g1, h1, c1) hP hD hS (by dsimp only; exact ⟨Or.inr ⟨rfl, hsq, by omega⟩, rfl, rfl, rfl, rfl, rfl⟩) (hml.trans hl.1.symm) dX2_pillar_68 dX2_pillar_71 dX2_pillar_72 dX2_pillar_74 dX2_pillar_77 hout (Nat.le_of_ble_eq_true rfl) (Nat.le_of_ble_eq_true rfl) (Nat.le_of_ble_eq_true rfl) (Nat.le_of_ble_eq_true rfl) hlk (Nat.le_of_ble_eq_true rfl) (Nat.le_of_ble_eq_true rfl)
set_option maxRecDepth 100000 in
set_option maxHeartbeats 4000000 in
theorem c_X2_base (l : Launch) (hl0 : l.stackTraces = false) (D : va_G) (cI cJ : ClassId) (tt fl s1 s2 pn d1 r1 : Nat) (lim bs P sm C R np c1 : Int) (gn g1 h1 : Nat → Int) (N : Int → Int) (a b : Int) (hF : FlOK C R np N gn) (hbg : GdZ C R N (bs * 343)) (hPb : 0 ≤ P ∧ P < 16807) (ha1 : -2147483648 ≤ a) (ha2 : a < 2147483648) (hb1 : -2147483648 ≤ b) (hb2 : b < 2147483648) (sz : Nat) : VMv l yX2_base (.code yX2_base cX2_base 4 none) 10 2 12 [.ref tt, .int (iI a), .int (iI b)] D cI cJ [(tt, .inr (2, [.ref fl, .int (iI lim), .ref s1, .ref s2, .int (iI bs), .int (iI P), .int (iI sm)])), (fl, .inr (0, [.int (iI C), .int (iI R), .ref pn, .int (iI np)])), (pn, .inl (cI, 49, .inl (aI gn))), (s1, .inr (1, [.ref d1, .ref r1, .int (iI c1)])), (d1, .inl (cI, 16807, .inl (aI g1))), (r1, .inl (cI, 9163, .inl (aI h1)))] sz (fun (u : Int × Int × Int × (Nat → Int) × (Nat → Int) × Int) => (0 ≤ a ∧ a < C ∧ 0 ≤ b ∧ b < R) ∧ N (a * 7 + b) = -1 ∧ u.1 = a * 7 + b ∧ u.2.1 = (a * 7 + b) * 343 ∧ u.2.2.1 = 0 ∧ SpOK (BF (aftZ C R N) ((a * 7 + b) * 343)) u.2.2.2.1 u.2.2.2.2.1 u.2.2.2.2.2) (fun u : Int × Int × Int × (Nat → Int) × (Nat → Int) × Int => [(tt, .inr (2, [.ref fl, .int (iI lim), .ref s1, .ref s2, .int (iI u.1), .int (iI u.2.1), .int (iI u.2.2.1)])), (fl, .inr (0, [.int (iI C), .int (iI R), .ref pn, .int (iI np)])), (pn, .inl (cI, 49, .inl (aI gn))), (s1, .inr (1, [.ref d1, .ref r1, .int (iI u.2.2.2.2.2)])), (d1, .inl (cI, 16807, .inl (aI u.2.2.2.1))), (r1, .inl (cI, 9163, .inl (aI u.2.2.2.2.1)))]) (fun (E : String) (u : Int × Int × Int × (Nat → Int) × (Nat → Int) × Int) => ((E = eIO ∧ ¬ (0 ≤ a ∧ a < C ∧ 0 ≤ b ∧ b < R)) ∨ (E = eIS ∧ (0 ≤ a ∧ a < C ∧ 0 ≤ b ∧ b < R) ∧ N (a * 7 + b) ≠ -1)) ∧ u.1 = bs ∧ u.2.1 = P ∧ u.2.2.1 = sm ∧ u.2.2.2.1 = g1 ∧ u.2.2.2.2.1 = h1 ∧ u.2.2.2.2.2 = c1) := by
  obtain ⟨hC1, hC2, hR1, hR2, hp1, hp2, -, -⟩ := id hF
  obtain ⟨hg0, hg1, -⟩ := id hbg
  obtain ⟨hP1, hP2⟩ := id hPb
  refine VM_of (Qc := fun A => QMv D A (fun (u : Int × Int × Int × (Nat → Int) × (Nat → Int) × Int) => (0 ≤ a ∧ a < C ∧ 0 ≤ b ∧ b < R) ∧ N (a * 7 + b) = -1 ∧ u.1 = a * 7 + b ∧ u.2.1 = (a * 7 + b) * 343 ∧ u.2.2.1 = 0 ∧ SpOK (BF (aftZ C R N) ((a * 7 + b) * 343)) u.2.2.2.1 u.2.2.2.2.1 u.2.2.2.2.2) (fun u : Int × Int × Int × (Nat → Int) × (Nat → Int) × Int => [(tt, .inr (2, [.ref fl, .int (iI lim), .ref s1, .ref s2, .int (iI u.1), .int (iI u.2.1), .int (iI u.2.2.1)])), (fl, .inr (0, [.int (iI C), .int (iI R), .ref pn, .int (iI np)])), (pn, .inl (cI, 49, .inl (aI gn))), (s1, .inr (1, [.ref d1, .ref r1, .int (iI u.2.2.2.2.2)])), (d1, .inl (cI, 16807, .inl (aI u.2.2.2.1))), (r1, .inl (cI, 9163, .inl (aI u.2.2.2.2.1)))])) (XC := fun A => XQ D A (fun u : Int × Int × Int × (Nat → Int) × (Nat → Int) × Int => [(tt, .inr (2, [.ref fl, .int (iI lim), .ref s1, .ref s2, .int (iI u.1), .int (iI u.2.1), .int (iI u.2.2.1)])), (fl, .inr (0, [.int (iI C), .int (iI R), .ref pn, .int (iI np)])), (pn, .inl (cI, 49, .inl (aI gn))), (s1, .inr (1, [.ref d1, .ref r1, .int (iI u.2.2.2.2.2)])), (d1, .inl (cI, 16807, .inl (aI u.2.2.2.1))), (r1, .inl (cI, 9163, .inl (aI u.2.2.2.2.1)))]) (fun (E : String) (u : Int × Int × Int × (Nat → Int) × (Nat → Int) × Int) => ((E = eIO ∧ ¬ (0 ≤ a ∧ a < C ∧ 0 ≤ b ∧ b < R)) ∨ (E = eIS ∧ (0 ≤ a ∧ a < C ∧ 0 ≤ b ∧ b < R) ∧ N (a * 7 + b) ≠ -1)) ∧ u.1 = bs ∧ u.2.1 = P ∧ u.2.2.1 = sm ∧ u.2.2.2.1 = g1 ∧ u.2.2.2.2.1 = h1 ∧ u.2.2.2.2.2 = c1)) (by decide) rfl (Nat.le_of_ble_eq_true rfl) (fun p e s m below meth c ls A hx hb hr hts hown hlk hml hin hK hP hD hA hS hl hE hout => ?_)
  have hl : lv_has ls 4 [(0, .ref tt), (1, .int (iI a)), (2, .int (iI b))] := hl
  refine lv_aload_n hx hb dX2_base_0 rfl (lv_at hl 0 rfl) ?_
  refine lv_iload_n hx hb dX2_base_1 rfl (lv_at hl 1 rfl) ?_
  refine lv_iload_n hx hb dX2_base_2 rfl (lv_at hl 2 rfl) ?_
  refine zx_Vv (As := [.int (iI a), .int (iI b)]) (rest := []) (ws := [(tt, .inr (2, [.ref fl, .int (iI lim), .ref s1, .ref s2, .int (iI bs), .int (iI P), .int (iI sm)])), (fl, .inr (0, [.int (iI C), .int (iI R), .ref pn, .int (iI np)])), (pn, .inl (cI, 49, .inl (aI gn))), (s1, .inr (1, [.ref d1, .ref r1, .int (iI c1)])), (d1, .inl (cI, 16807, .inl (aI g1))), (r1, .inl (cI, 9163, .inl (aI h1)))]) (wr := [(s1, .inr (1, [.ref d1, .ref r1, .int (iI c1)])), (d1, .inl (cI, 16807, .inl (aI g1))), (r1, .inl (cI, 9163, .inl (aI h1)))]) (n := 2) hx hb (hml.trans hl.1.symm) hts hown hK hP hD hS hA hE (c_X2_requireSquare l hl0 D cI cJ tt fl s1 s2 pn lim bs P sm C R np gn N a b hF (by omega) (by omega) (by omega) (by omega) _) (gd_V q_244 q_246 q_1009 q_1 q_247) (by decide +kernel) rfl ⟨Nat.le_of_ble_eq_true rfl, Nat.le_of_ble_eq_true rfl⟩ ⟨Nat.le_of_ble_eq_true rfl, Nat.le_of_ble_eq_true rfl⟩ [0, 1, 2] [3, 4, 5] rfl rfl (by decide) (by decide) (by decide) 0 (ci := 2) rfl rfl rfl rfl (Nat.le_of_ble_eq_true rfl) dX2_base_3 (fun E9 ce9 q9 u H locs hpx hP hD hS hce hcv hcl => ?_) (fun u H locs hq_1 hP hD hS => ?_)
  · have hP := hP.sub (ws' := [(tt, .inr (2, [.ref fl, .int (iI lim), .ref s1, .ref s2, .int (iI bs), .int (iI P), .int (iI sm)])), (fl, .inr (0, [.int (iI C), .int (iI R), .ref pn, .int (iI np)])), (pn, .inl (cI, 49, .inl (aI gn))), (s1, .inr (1, [.ref d1, .ref r1, .int (iI c1)])), (d1, .inl (cI, 16807, .inl (aI g1))), (r1, .inl (cI, 9163, .inl (aI h1)))]) [3, 4, 5, 0, 1, 2] rfl
    have hD := hD.sub (ws' := [(tt, .inr (2, [.ref fl, .int (iI lim), .ref s1, .ref s2, .int (iI bs), .int (iI P), .int (iI sm)])), (fl, .inr (0, [.int (iI C), .int (iI R), .ref pn, .int (iI np)])), (pn, .inl (cI, 49, .inl (aI gn))), (s1, .inr (1, [.ref d1, .ref r1, .int (iI c1)])), (d1, .inl (cI, 16807, .inl (aI g1))), (r1, .inl (cI, 9163, .inl (aI h1)))]) [3, 4, 5, 0, 1, 2] (by decide) rfl
    try dsimp only at hpx
    exact zx_O (bs, P, sm, g1, h1, c1) hP hD hS (by dsimp only; exact ⟨Or.inl hpx, rfl, rfl, rfl, rfl, rfl, rfl⟩) hout hlk hce hcv hcl (Nat.le_of_ble_eq_true rfl) (Nat.le_of_ble_eq_true rfl)
  have hP := hP.sub (ws' := [(tt, .inr (2, [.ref fl, .int (iI lim), .ref s1, .ref s2, .int (iI bs), .int (iI P), .int (iI sm)])), (fl, .inr (0, [.int (iI C), .int (iI R), .ref pn, .int (iI np)])), (pn, .inl (cI, 49, .inl (aI gn))), (s1, .inr (1, [.ref d1, .ref r1, .int (iI c1)])), (d1, .inl (cI, 16807, .inl (aI g1))), (r1, .inl (cI, 9163, .inl (aI h1)))]) [3, 4, 5, 0, 1, 2] rfl
  have hD := hD.sub (ws' := [(tt, .inr (2, [.ref fl, .int (iI lim), .ref s1, .ref s2, .int (iI bs), .int (iI P), .int (iI sm)])), (fl, .inr (0, [.int (iI C), .int (iI R), .ref pn, .int (iI np)])), (pn, .inl (cI, 49, .inl (aI gn))), (s1, .inr (1, [.ref d1, .ref r1, .int (iI c1)])), (d1, .inl (cI, 16807, .inl (aI g1))), (r1, .inl (cI, 9163, .inl (aI h1)))]) [3, 4, 5, 0, 1, 2] (by decide) rfl
  try dsimp only at hq_1
  have hsq := hq_1
  refine lv_iload_n hx hb dX2_base_6 rfl (lv_at hl 1 rfl) ?_
  refine lv_iload_n hx hb dX2_base_7 rfl (lv_at hl 2 rfl) ?_
  refine zc_S (As := [.int (iI a), .int (iI b)]) (rest := []) (ws := [(tt, .inr (2, [.ref fl, .int (iI lim), .ref s1, .ref s2, .int (iI bs), .int (iI P), .int (iI sm)])), (fl, .inr (0, [.int (iI C), .int (iI R), .ref pn, .int (iI np)])), (pn, .inl (cI, 49, .inl (aI gn))), (s1, .inr (1, [.ref d1, .ref r1, .int (iI c1)])), (d1, .inl (cI, 16807, .inl (aI g1))), (r1, .inl (cI, 9163, .inl (aI h1)))]) (n := 2) hx hb (hml.trans hl.1.symm) hts hown hK hP (c_X2_squareAt l D cI cJ a b) (gd_S q_70 q_71 q_1 q_72) (by decide +kernel) rfl ⟨Nat.le_of_ble_eq_true rfl, Nat.le_of_ble_eq_true rfl⟩ ⟨Nat.le_of_ble_eq_true rfl, Nat.le_of_ble_eq_true rfl⟩ [] rfl rfl (Nat.le_of_ble_eq_true rfl) dX2_base_8 (fun r_3 hr_3 => ?_)
  subst r_3
  refine lv_istore_n (lv' := [(3, .int (iI (a * 7 + b))), (0, .ref tt), (1, .int (iI a)), (2, .int (iI b))]) hx hb dX2_base_11 rfl hl (by decide) rfl (fun ls hl => ?_)
  refine lv_aload_n hx hb dX2_base_12 rfl (lv_at hl 1 rfl) ?_
  refine va_get (D := D) (ci := 2) (v := .ref fl) (C := RX2) (T := TX2) (N := 7) hx hb hts uX2 hown hK.1 hP 0 rfl rfl 0 (by decide) (hts _ q_157) (fun _ h9 => h9) rfl dX2_base_13 ?_
  refine lv_iload_n hx hb dX2_base_16 rfl (lv_at hl 0 rfl) ?_
  refine zc_V (As := [.int (iI (a * 7 + b))]) (rest := []) (ws := [(tt, .inr (2, [.ref fl, .int (iI lim), .ref s1, .ref s2, .int (iI bs), .int (iI P), .int (iI sm)])), (fl, .inr (0, [.int (iI C), .int (iI R), .ref pn, .int (iI np)])), (pn, .inl (cI, 49, .inl (aI gn))), (s1, .inr (1, [.ref d1, .ref r1, .int (iI c1)])), (d1, .inl (cI, 16807, .inl (aI g1))), (r1, .inl (cI, 9163, .inl (aI h1)))]) (n := 1) hx hb (hml.trans hl.1.symm) hts hown hK hP (c_X0_isPillar l D cI cJ fl pn C R np gn N (a * 7 + b) hF (by omega) (by omega)) (gd_V q_322 q_123 q_124 q_3 q_125) (by decide +kernel) rfl ⟨Nat.le_of_ble_eq_true rfl, Nat.le_of_ble_eq_true rfl⟩ ⟨Nat.le_of_ble_eq_true rfl, Nat.le_of_ble_eq_true rfl⟩ [1, 2] rfl 1 (ci := 0) rfl rfl rfl rfl (Nat.le_of_ble_eq_true rfl) dX2_base_17 (fun r_4 hr_4 => ?_)
  refine zv_if_eq hx hb dX2_base_20 (tgt := 33) (by decide) ⟨by omega, by omega⟩ (fun c_5 => ?_) (fun c_5 => ?_)
  · refine lv_aload_n hx hb dX2_base_33 rfl (lv_at hl 1 rfl) ?_
    refine lv_iload_n hx hb dX2_base_34 rfl (lv_at hl 0 rfl) ?_
    refine va_put (D := D) (ci := 2) (v := .int (iI (a * 7 + b))) (ty := .int) (C := RX2) (T := TX2) (N := 7) hx hb hts uX2 tyX2 tyX2_ok nmX2 hown hK.1 hP hD hS 0 rfl rfl 4 (by decide) (hts _ q_161) (fun _ h9 => h9) rfl (by decide +kernel) rfl rfl (Nat.le_of_ble_eq_true rfl) dX2_base_35 (fun H locs hP hD hS => ?_)
    have hP : va_P D vwCl [(tt, .inr (2, [.ref fl, .int (iI lim), .ref s1, .ref s2, .int (iI (a * 7 + b)), .int (iI P), .int (iI sm)])), (fl, .inr (0, [.int (iI C), .int (iI R), .ref pn, .int (iI np)])), (pn, .inl (cI, 49, .inl (aI gn))), (s1, .inr (1, [.ref d1, .ref r1, .int (iI c1)])), (d1, .inl (cI, 16807, .inl (aI g1))), (r1, .inl (cI, 9163, .inl (aI h1)))] H := hP
    have hD : va_D A [(tt, .inr (2, [.ref fl, .int (iI lim), .ref s1, .ref s2, .int (iI (a * 7 + b)), .int (iI P), .int (iI sm)])), (fl, .inr (0, [.int (iI C), .int (iI R), .ref pn, .int (iI np)])), (pn, .inl (cI, 49, .inl (aI gn))), (s1, .inr (1, [.ref d1, .ref r1, .int (iI c1)])), (d1, .inl (cI, 16807, .inl (aI g1))), (r1, .inl (cI, 9163, .inl (aI h1)))] := hD
    refine lv_aload_n hx hb dX2_base_38 rfl (lv_at hl 1 rfl) ?_
    refine lv_aload_n hx hb dX2_base_39 rfl (lv_at hl 1 rfl) ?_
    refine va_get (D := D) (ci := 2) (v := .int (iI (a * 7 + b))) (C := RX2) (T := TX2) (N := 7) hx hb hts uX2 hown hK.1 hP 0 rfl rfl 4 (by decide) (hts _ q_161) (fun _ h9 => h9) rfl dX2_base_40 ?_
    refine zv_iconst hx hb dX2_base_43 ?_
    refine zc_S (As := [.int (iI (a * 7 + b)), .int (iI 0)]) (rest := [.ref tt]) (ws := [(tt, .inr (2, [.ref fl, .int (iI lim), .ref s1, .ref s2, .int (iI (a * 7 + b)), .int (iI P), .int (iI sm)])), (fl, .inr (0, [.int (iI C), .int (iI R), .ref pn, .int (iI np)])), (pn, .inl (cI, 49, .inl (aI gn))), (s1, .inr (1, [.ref d1, .ref r1, .int (iI c1)])), (d1, .inl (cI, 16807, .inl (aI g1))), (r1, .inl (cI, 9163, .inl (aI h1)))]) (n := 2) hx hb (hml.trans hl.1.symm) hts hown hK hP (c_X2_placeOf l D cI cJ (a * 7 + b) 0) (gd_S q_73 q_74 q_1 q_75) (by decide +kernel) rfl ⟨Nat.le_of_ble_eq_true rfl, Nat.le_of_ble_eq_true rfl⟩ ⟨Nat.le_of_ble_eq_true rfl, Nat.le_of_ble_eq_true rfl⟩ [] rfl rfl (Nat.le_of_ble_eq_true rfl) dX2_base_44 (fun r_6 hr_6 => ?_)
    subst r_6
    refine zv_top (y := ((a * 7 + b) * 343)) (by omega) ?_
    refine va_put (D := D) (ci := 2) (v := .int (iI ((a * 7 + b) * 343))) (ty := .int) (C := RX2) (T := TX2) (N := 7) hx hb hts uX2 tyX2 tyX2_ok nmX2 hown hK.1 hP hD hS 0 rfl rfl 5 (by decide) (hts _ q_162) (fun _ h9 => h9) rfl (by decide +kernel) rfl rfl (Nat.le_of_ble_eq_true rfl) dX2_base_47 (fun H locs hP hD hS => ?_)
    have hP : va_P D vwCl [(tt, .inr (2, [.ref fl, .int (iI lim), .ref s1, .ref s2, .int (iI (a * 7 + b)), .int (iI ((a * 7 + b) * 343)), .int (iI sm)])), (fl, .inr (0, [.int (iI C), .int (iI R), .ref pn, .int (iI np)])), (pn, .inl (cI, 49, .inl (aI gn))), (s1, .inr (1, [.ref d1, .ref r1, .int (iI c1)])), (d1, .inl (cI, 16807, .inl (aI g1))), (r1, .inl (cI, 9163, .inl (aI h1)))] H := hP
    have hD : va_D A [(tt, .inr (2, [.ref fl, .int (iI lim), .ref s1, .ref s2, .int (iI (a * 7 + b)), .int (iI ((a * 7 + b) * 343)), .int (iI sm)])), (fl, .inr (0, [.int (iI C), .int (iI R), .ref pn, .int (iI np)])), (pn, .inl (cI, 49, .inl (aI gn))), (s1, .inr (1, [.ref d1, .ref r1, .int (iI c1)])), (d1, .inl (cI, 16807, .inl (aI g1))), (r1, .inl (cI, 9163, .inl (aI h1)))] := hD
    refine lv_aload_n hx hb dX2_base_50 rfl (lv_at hl 1 rfl) ?_
    refine zv_iconst hx hb dX2_base_51 ?_
    refine va_put (D := D) (ci := 2) (v := .int (iI 0)) (ty := .int) (C := RX2) (T := TX2) (N := 7) hx hb hts uX2 tyX2 tyX2_ok nmX2 hown hK.1 hP hD hS 0 rfl rfl 6 (by decide) (hts _ q_163) (fun _ h9 => h9) rfl (by decide +kernel) rfl rfl (Nat.le_of_ble_eq_true rfl) dX2_base_52 (fun H locs hP hD hS => ?_)
    have hP : va_P D vwCl [(tt, .inr (2, [.ref fl, .int (iI lim), .ref s1, .ref s2, .int (iI (a * 7 + b)), .int (iI ((a * 7 + b) * 343)), .int (iI 0)])), (fl, .inr (0, [.int (iI C), .int (iI R), .ref pn, .int (iI np)])), (pn, .inl (cI, 49, .inl (aI gn))), (s1, .inr (1, [.ref d1, .ref r1, .int (iI c1)])), (d1, .inl (cI, 16807, .inl (aI g1))), (r1, .inl (cI, 9163, .inl (aI h1)))] H := hP
    have hD : va_D A [(tt, .inr (2, [.ref fl, .int (iI lim), .ref s1, .ref s2, .int (iI (a * 7 + b)), .int (iI ((a * 7 + b) * 343)), .int (iI 0)])), (fl, .inr (0, [.int (iI C), .int (iI R), .ref pn, .int (iI np)])), (pn, .inl (cI, 49, .inl (aI gn))), (s1, .inr (1, [.ref d1, .ref r1, .int (iI c1)])), (d1, .inl (cI, 16807, .inl (aI g1))), (r1, .inl (cI, 9163, .inl (aI h1)))] := hD
    refine lv_aload_n hx hb dX2_base_55 rfl (lv_at hl 1 rfl) ?_
    refine zm_Vv (As := []) (rest := []) (ws := [(tt, .inr (2, [.ref fl, .int (iI lim), .ref s1, .ref s2, .int (iI (a * 7 + b)), .int (iI ((a * 7 + b) * 343)), .int (iI 0)])), (fl, .inr (0, [.int (iI C), .int (iI R), .ref pn, .int (iI np)])), (pn, .inl (cI, 49, .inl (aI gn))), (s1, .inr (1, [.ref d1, .ref r1, .int (iI c1)])), (d1, .inl (cI, 16807, .inl (aI g1))), (r1, .inl (cI, 9163, .inl (aI h1)))]) (wr := []) (n := 0) hx hb (hml.trans hl.1.symm) hts hown hK hP hD hS hA (c_X2_measureLengths l D cI cJ tt fl s1 s2 pn d1 r1 lim (a * 7 + b) ((a * 7 + b) * 343) 0 C R np c1 gn g1 h1 N hF (GdZ_mk hC2 hR2 hsq.1 hsq.2.1 hsq.2.2.1 hsq.2.2.2 (by omega)) _) (gd_V q_76 q_78 q_1000 q_1 q_79) (by decide +kernel) rfl ⟨Nat.le_of_ble_eq_true rfl, Nat.le_of_ble_eq_true rfl⟩ ⟨Nat.le_of_ble_eq_true rfl, Nat.le_of_ble_eq_true rfl⟩ [0, 1, 2, 3, 4, 5] [] rfl rfl (by decide) (by decide) (by decide) 0 (ci := 2) rfl rfl rfl rfl (Nat.le_of_ble_eq_true rfl) dX2_base_56 (fun u H locs hq_7 hP hD hS => ?_)
    obtain ⟨g9, h9, c9⟩ := u
    have hP := hP.sub (ws' := [(tt, .inr (2, [.ref fl, .int (iI lim), .ref s1, .ref s2, .int (iI (a * 7 + b)), .int (iI ((a * 7 + b) * 343)), .int (iI 0)])), (fl, .inr (0, [.int (iI C), .int (iI R), .ref pn, .int (iI np)])), (pn, .inl (cI, 49, .inl (aI gn))), (s1, .inr (1, [.ref d1, .ref r1, .int (iI c9)])), (d1, .inl (cI, 16807, .inl (aI g9))), (r1, .inl (cI, 9163, .inl (aI h9)))]) [0, 1, 2, 3, 4, 5] rfl
    have hD := hD.sub (ws' := [(tt, .inr (2, [.ref fl, .int (iI lim), .ref s1, .ref s2, .int (iI (a * 7 + b)), .int (iI ((a * 7 + b) * 343)), .int (iI 0)])), (fl, .inr (0, [.int (iI C), .int (iI R), .ref pn, .int (iI np)])), (pn, .inl (cI, 49, .inl (aI gn))), (s1, .inr (1, [.ref d1, .ref r1, .int (iI c9)])), (d1, .inl (cI, 16807, .inl (aI g9))), (r1, .inl (cI, 9163, .inl (aI h9)))]) [0, 1, 2, 3, 4, 5] (by decide) rfl
    try dsimp only at hq_7
    have hms := hq_7
    exact vx_ret (MM_vret ((a * 7 + b), ((a * 7 + b) * 343), 0, g9, h9, c9) hx hb hr hlk hP hD hS (Nat.le_of_ble_eq_true rfl) (Nat.le_of_ble_eq_true rfl) dX2_base_59 (by dsimp only; exact ⟨hsq, by omega, rfl, rfl, rfl, hms⟩))
  · exact zx_T hx hb hl0 hown hts xt_IS (List.mem_of_getElem? (i := 1) rfl) hE (bs, P, sm, g1, h1, c1) hP hD hS (by dsimp only; exact ⟨Or.inr ⟨rfl, hsq, by omega⟩, rfl, rfl, rfl, rfl, rfl, rfl⟩) (hml.trans hl.1.symm) dX2_base_23 dX2_base_26 dX2_base_27 dX2_base_29 dX2_base_32 hout (Nat.le_of_ble_eq_true rfl) (Nat.le_of_ble_eq_true rfl) (Nat.le_of_ble_eq_true rfl) (Nat.le_of_ble_eq_true rfl) hlk (Nat.le_of_ble_eq_true rfl) (Nat.le_of_ble_eq_true rfl)
end
section
/-! the law's calls of methods with a table -/
section ZL
variable {p : Program} {l : Launch} {e : Env} {R : Room} {s : State} {m : MethodId} {args : Array Value} {below : List Frame} {meth : Method} {c : Code} {H : Heap} {locs : List Loc} {cells slots : Nat} {Q : State → Prop}
variable {cc : ByteArray} {pc : Nat} {ls : Array Slot} {rest st : List Value} {D : va_G} {cI cJ : ClassId} {A : Nat → Prop} {a : Nat} {ws : va_W}
/-- a static call of a method with handlers, out of which nothing comes thrown -/
theorem zx_S {y : MethodName} {bytes : ByteArray} {maxL index k n mc ms : Nat} {ret : Option FieldType} {hh : List (Nat × Nat × Nat × Nat)} {own : String} {As : List Value} {ws wc wr : va_W} {S : Type} {post : Int → S → Prop} {Wf : S → va_W} (hexec : p.tables.exec = Jvm.exec) (hb : c.code = cc) (hml : c.maxLocals = ls.size) (hts : ∀ w ∈ GW, w.before args s = true) (hown : s.vm.findClass own = some m.cls) (hK : KK D cI cJ s) (hP : va_P D vwCl ws H) (hD : va_D A ws) (hS : va_S A s.heap H locs) (hA : ∀ q : Nat, s.heap.size ≤ q → A q) (hE : EX A s s.heap)
    (hM : VMi l y (.codeWith y bytes maxL ret hh) k mc ms As D cI cJ wc H.size post Wf (fun _ _ => False)) (hG : GoodIn GW (va_wsS own index y (.codeWith y bytes maxL ret hh :: GW))) (hd : y.cls ≠ "java/lang/invoke/MethodHandle" ∧ y.cls ≠ "java/lang/invoke/VarHandle" ∧ (parseMethodDescriptor y.desc).map (fun d => d.parameters.length) = some n) (hn : As.length = n)
    (hR : k + 1 ≤ R.frames ∧ 8 + (maxL + 11) + 64 * k ≤ R.locals) (hf : cells + mc ≤ R.cells ∧ slots + ms ≤ R.slots) (pl rl : List Nat) (hC : pl.map (fun i => ws[i]?) = wc.map some) (hRl : rl.map (fun i => ws[i]?) = wr.map some) (hn1 : va_nd pl = true) (hn2 : va_nd rl = true) (hdis : ∀ i ∈ rl, i ∉ pl) (hst : st = As.reverse ++ rest) (hW : (rest.map fun v => v.category).sum ≤ 8) (hdg : decode cc pc = .ok (.invokestatic index, 3))
    (kk : ∀ (r : Int) (u : S) (H1 : Heap) (locs1 : List Loc), post r u → va_P D vwCl (wr ++ Wf u) H1 → va_D A (wr ++ Wf u) → va_S A s.heap H1 locs1 → W p l e R s m args below meth c H1 locs1 (cells + mc) (slots + ms) Q (F0 m (pc + 3) ls (.int (iI r) :: rest))) : W p l e R s m args below meth c H locs cells slots Q (F0 m pc ls st) :=
  VM_goi hP hD hS hA pl rl hC hRl hn2 hdis (vx_runSX (As := As) (rest := rest) (nL := ls.size) ⟨hexec, hb, hml, hown, hts⟩ hM (vx_cwSW n hts hG rfl rfl rfl hd hR) ⟨VPre_blind, VM_pre hK hP hD hS hA hE pl hC hn1 (fm_of hC)⟩ rfl hn rfl hst (lv_room hW) hdg hf) (fun _ _ _ _ _ _ h => h.elim) kk
end ZL
end
section
set_option maxRecDepth 100000 in
set_option maxHeartbeats 4000000 in
theorem c_X2_init (l : Launch) (D : va_G) (cI cJ : ClassId) (tt : Nat) (ca cb cd : Int) (hca1 : -2147483648 ≤ ca) (hca2 : ca < 2147483648) (hcb1 : -2147483648 ≤ cb) (hcb2 : cb < 2147483648) (hcd1 : -2147483648 ≤ cd) (hcd2 : cd < 2147483648) (sz : Nat) : MMv l yX2_init (.code yX2_init cX2_init 4 none) 8 8 51999 [.ref tt, .int (iI ca), .int (iI cb), .int (iI cd)] D cI cJ [(tt, .inr (2, [.null, .int (iI 0), .null, .null, .int (iI 0), .int (iI 0), .int (iI 0)]))] sz (fun (u : Nat × Nat × Nat × Nat × Nat × Nat × Nat × Nat × (Nat → Int) × (Nat → Int) × (Nat → Int) × Int) => (∀ k : Nat, k < 49 → u.2.2.2.2.2.2.2.2.1 k = -1) ∧ SpOK (BF (aftZ (clZ ca 3 7) (clZ cb 3 7) (fun _ => -1)) (0 * 343)) u.2.2.2.2.2.2.2.2.2.1 u.2.2.2.2.2.2.2.2.2.2.1 u.2.2.2.2.2.2.2.2.2.2.2) (fun u : Nat × Nat × Nat × Nat × Nat × Nat × Nat × Nat × (Nat → Int) × (Nat → Int) × (Nat → Int) × Int => [(tt, .inr (2, [.ref u.1, .int (iI (clZ cd 1 60)), .ref u.2.2.1, .ref u.2.2.2.2.2.1, .int (iI 0), .int (iI 0), .int (iI 0)])), (u.1, .inr (0, [.int (iI (clZ ca 3 7)), .int (iI (clZ cb 3 7)), .ref u.2.1, .int (iI 0)])), (u.2.1, .inl (cI, 49, .inl (aI u.2.2.2.2.2.2.2.2.1))), (u.2.2.1, .inr (1, [.ref u.2.2.2.1, .ref u.2.2.2.2.1, .int (iI u.2.2.2.2.2.2.2.2.2.2.2)])), (u.2.2.2.1, .inl (cI, 16807, .inl (aI u.2.2.2.2.2.2.2.2.2.1))), (u.2.2.2.2.1, .inl (cI, 9163, .inl (aI u.2.2.2.2.2.2.2.2.2.2.1))), (u.2.2.2.2.2.1, .inr (1, [.ref u.2.2.2.2.2.2.1, .ref u.2.2.2.2.2.2.2.1, .int (iI 0)])), (u.2.2.2.2.2.2.1, .inl (cI, 16807, .inl (aI (fun _ => 0)))), (u.2.2.2.2.2.2.2.1, .inl (cI, 9163, .inl (aI (fun _ => 0))))]) := by
  refine MM_of (Qc := fun A => QMv D A (fun (u : Nat × Nat × Nat × Nat × Nat × Nat × Nat × Nat × (Nat → Int) × (Nat → Int) × (Nat → Int) × Int) => (∀ k : Nat, k < 49 → u.2.2.2.2.2.2.2.2.1 k = -1) ∧ SpOK (BF (aftZ (clZ ca 3 7) (clZ cb 3 7) (fun _ => -1)) (0 * 343)) u.2.2.2.2.2.2.2.2.2.1 u.2.2.2.2.2.2.2.2.2.2.1 u.2.2.2.2.2.2.2.2.2.2.2) (fun u : Nat × Nat × Nat × Nat × Nat × Nat × Nat × Nat × (Nat → Int) × (Nat → Int) × (Nat → Int) × Int => [(tt, .inr (2, [.ref u.1, .int (iI (clZ cd 1 60)), .ref u.2.2.1, .ref u.2.2.2.2.2.1, .int (iI 0), .int (iI 0), .int (iI 0)])), (u.1, .inr (0, [.int (iI (clZ ca 3 7)), .int (iI (clZ cb 3 7)), .ref u.2.1, .int (iI 0)])), (u.2.1, .inl (cI, 49, .inl (aI u.2.2.2.2.2.2.2.2.1))), (u.2.2.1, .inr (1, [.ref u.2.2.2.1, .ref u.2.2.2.2.1, .int (iI u.2.2.2.2.2.2.2.2.2.2.2)])), (u.2.2.2.1, .inl (cI, 16807, .inl (aI u.2.2.2.2.2.2.2.2.2.1))), (u.2.2.2.2.1, .inl (cI, 9163, .inl (aI u.2.2.2.2.2.2.2.2.2.2.1))), (u.2.2.2.2.2.1, .inr (1, [.ref u.2.2.2.2.2.2.1, .ref u.2.2.2.2.2.2.2.1, .int (iI 0)])), (u.2.2.2.2.2.2.1, .inl (cI, 16807, .inl (aI (fun _ => 0)))), (u.2.2.2.2.2.2.2.1, .inl (cI, 9163, .inl (aI (fun _ => 0))))])) (by decide) rfl (Nat.le_of_ble_eq_true rfl) (fun p e s m below meth c ls A hx hb hr hts hown hlk hml hin hK hP hD hA hS hl => ?_)
  have hl : lv_has ls 4 [(0, .ref tt), (1, .int (iI ca)), (2, .int (iI cb)), (3, .int (iI cd))] := hl
  refine lv_aload_n hx hb dX2_init_0 rfl (lv_at hl 0 rfl) ?_
  refine W.objInit hx hb hown (hts _ q_19) (hts _ q_20) (hts _ q_21) rfl (by rw [hml]; exact hl.1) rfl dX2_init_1 (Nat.le_of_ble_eq_true rfl) (Nat.le_of_ble_eq_true rfl) ?_
  refine W.eq (g2 := F0 m 4 ls []) rfl ?_
  refine lv_aload_n hx hb dX2_init_4 rfl (lv_at hl 0 rfl) ?_
  refine va_new (ci := 1) (fs := [.null, .null, .int (iI 0)]) (C := RX1) (T := TX1) (N := 3) hx hb hts uX1 tyX1 tyX1_ok hown (hts _ q_22) (hts _ q_23) (hts _ q_2) hK.1 hP hD hS hA rfl (fun j hj => by rcases (show j = 0 ∨ j = 1 ∨ j = 2 by omega) with rfl | rfl | rfl <;> rfl) (Nat.le_of_ble_eq_true rfl) (Nat.le_of_ble_eq_true rfl) dX2_init_5 (fun o_1 H hP hD hS => ?_)
  have hP : va_P D vwCl [(tt, .inr (2, [.null, .int (iI 0), .null, .null, .int (iI 0), .int (iI 0), .int (iI 0)])), (o_1, .inr (1, [.null, .null, .int (iI 0)]))] H := hP
  have hD : va_D A [(tt, .inr (2, [.null, .int (iI 0), .null, .null, .int (iI 0), .int (iI 0), .int (iI 0)])), (o_1, .inr (1, [.null, .null, .int (iI 0)]))] := hD
  refine lv_dup hx hb dX2_init_8 rfl ?_
  refine zm_IN (As := []) (rest := [.ref o_1, .ref tt]) (ws := [(tt, .inr (2, [.null, .int (iI 0), .null, .null, .int (iI 0), .int (iI 0), .int (iI 0)])), (o_1, .inr (1, [.null, .null, .int (iI 0)]))]) (wr := [(tt, .inr (2, [.null, .int (iI 0), .null, .null, .int (iI 0), .int (iI 0), .int (iI 0)]))]) (n := 0) hx hb (hml.trans hl.1.symm) hts hown hK hP hD hS hA (c_X1_init l D cI cJ o_1 _) q_26 q_2 (by decide +kernel) q_25 rfl (by decide +kernel) rfl ⟨Nat.le_of_ble_eq_true rfl, Nat.le_of_ble_eq_true rfl⟩ ⟨Nat.le_of_ble_eq_true rfl, Nat.le_of_ble_eq_true rfl⟩ [1] [0] rfl rfl (by decide) (by decide) (by decide) rfl (Nat.le_of_ble_eq_true rfl) dX2_init_9 (fun u H locs hq_2 hP hD hS => ?_)
  obtain ⟨d1, r1⟩ := u
  have hP := hP.sub (ws' := [(tt, .inr (2, [.null, .int (iI 0), .null, .null, .int (iI 0), .int (iI 0), .int (iI 0)])), (o_1, .inr (1, [.ref d1, .ref r1, .int (iI 0)])), (d1, .inl (cI, 16807, .inl (aI (fun _ => 0)))), (r1, .inl (cI, 9163, .inl (aI (fun _ => 0))))]) [0, 1, 2, 3] rfl
  have hD := hD.sub (ws' := [(tt, .inr (2, [.null, .int (iI 0), .null, .null, .int (iI 0), .int (iI 0), .int (iI 0)])), (o_1, .inr (1, [.ref d1, .ref r1, .int (iI 0)])), (d1, .inl (cI, 16807, .inl (aI (fun _ => 0)))), (r1, .inl (cI, 9163, .inl (aI (fun _ => 0))))]) [0, 1, 2, 3] (by decide) rfl
  try dsimp only at hq_2
  refine va_putF (D := D) (ci := 2) (v := .ref o_1) (ty := (.object "Tetherline$Spread")) (C := RX2) (T := TX2) (N := 7) hx hb hts uX2 tyX2 tyX2_ok nmX2 hown hK.1 hP hD hS 0 rfl rfl 2 (by decide) (hts _ q_159) (fun _ h9 => h9) rfl hin rfl (by decide +kernel) rfl rfl (Nat.le_of_ble_eq_true rfl) dX2_init_12 (fun H locs hP hD hS => ?_)
  have hP : va_P D vwCl [(tt, .inr (2, [.null, .int (iI 0), .ref o_1, .null, .int (iI 0), .int (iI 0), .int (iI 0)])), (o_1, .inr (1, [.ref d1, .ref r1, .int (iI 0)])), (d1, .inl (cI, 16807, .inl (aI (fun _ => 0)))), (r1, .inl (cI, 9163, .inl (aI (fun _ => 0))))] H := hP
  have hD : va_D A [(tt, .inr (2, [.null, .int (iI 0), .ref o_1, .null, .int (iI 0), .int (iI 0), .int (iI 0)])), (o_1, .inr (1, [.ref d1, .ref r1, .int (iI 0)])), (d1, .inl (cI, 16807, .inl (aI (fun _ => 0)))), (r1, .inl (cI, 9163, .inl (aI (fun _ => 0))))] := hD
  refine lv_aload_n hx hb dX2_init_15 rfl (lv_at hl 0 rfl) ?_
  refine va_new (ci := 1) (fs := [.null, .null, .int (iI 0)]) (C := RX1) (T := TX1) (N := 3) hx hb hts uX1 tyX1 tyX1_ok hown (hts _ q_22) (hts _ q_23) (hts _ q_2) hK.1 hP hD hS hA rfl (fun j hj => by rcases (show j = 0 ∨ j = 1 ∨ j = 2 by omega) with rfl | rfl | rfl <;> rfl) (Nat.le_of_ble_eq_true rfl) (Nat.le_of_ble_eq_true rfl) dX2_init_16 (fun o_4 H hP hD hS => ?_)
  have hP : va_P D vwCl [(tt, .inr (2, [.null, .int (iI 0), .ref o_1, .null, .int (iI 0), .int (iI 0), .int (iI 0)])), (o_1, .inr (1, [.ref d1, .ref r1, .int (iI 0)])), (d1, .inl (cI, 16807, .inl (aI (fun _ => 0)))), (r1, .inl (cI, 9163, .inl (aI (fun _ => 0)))), (o_4, .inr (1, [.null, .null, .int (iI 0)]))] H := hP
  have hD : va_D A [(tt, .inr (2, [.null, .int (iI 0), .ref o_1, .null, .int (iI 0), .int (iI 0), .int (iI 0)])), (o_1, .inr (1, [.ref d1, .ref r1, .int (iI 0)])), (d1, .inl (cI, 16807, .inl (aI (fun _ => 0)))), (r1, .inl (cI, 9163, .inl (aI (fun _ => 0)))), (o_4, .inr (1, [.null, .null, .int (iI 0)]))] := hD
  refine lv_dup hx hb dX2_init_19 rfl ?_
  refine zm_IN (As := []) (rest := [.ref o_4, .ref tt]) (ws := [(tt, .inr (2, [.null, .int (iI 0), .ref o_1, .null, .int (iI 0), .int (iI 0), .int (iI 0)])), (o_1, .inr (1, [.ref d1, .ref r1, .int (iI 0)])), (d1, .inl (cI, 16807, .inl (aI (fun _ => 0)))), (r1, .inl (cI, 9163, .inl (aI (fun _ => 0)))), (o_4, .inr (1, [.null, .null, .int (iI 0)]))]) (wr := [(tt, .inr (2, [.null, .int (iI 0), .ref o_1, .null, .int (iI 0), .int (iI 0), .int (iI 0)])), (o_1, .inr (1, [.ref d1, .ref r1, .int (iI 0)])), (d1, .inl (cI, 16807, .inl (aI (fun _ => 0)))), (r1, .inl (cI, 9163, .inl (aI (fun _ => 0))))]) (n := 0) hx hb (hml.trans hl.1.symm) hts hown hK hP hD hS hA (c_X1_init l D cI cJ o_4 _) q_26 q_2 (by decide +kernel) q_25 rfl (by decide +kernel) rfl ⟨Nat.le_of_ble_eq_true rfl, Nat.le_of_ble_eq_true rfl⟩ ⟨Nat.le_of_ble_eq_true rfl, Nat.le_of_ble_eq_true rfl⟩ [4] [0, 1, 2, 3] rfl rfl (by decide) (by decide) (by decide) rfl (Nat.le_of_ble_eq_true rfl) dX2_init_20 (fun u H locs hq_5 hP hD hS => ?_)
  obtain ⟨d2, r2⟩ := u
  have hP := hP.sub (ws' := [(tt, .inr (2, [.null, .int (iI 0), .ref o_1, .null, .int (iI 0), .int (iI 0), .int (iI 0)])), (o_1, .inr (1, [.ref d1, .ref r1, .int (iI 0)])), (d1, .inl (cI, 16807, .inl (aI (fun _ => 0)))), (r1, .inl (cI, 9163, .inl (aI (fun _ => 0)))), (o_4, .inr (1, [.ref d2, .ref r2, .int (iI 0)])), (d2, .inl (cI, 16807, .inl (aI (fun _ => 0)))), (r2, .inl (cI, 9163, .inl (aI (fun _ => 0))))]) [0, 1, 2, 3, 4, 5, 6] rfl
  have hD := hD.sub (ws' := [(tt, .inr (2, [.null, .int (iI 0), .ref o_1, .null, .int (iI 0), .int (iI 0), .int (iI 0)])), (o_1, .inr (1, [.ref d1, .ref r1, .int (iI 0)])), (d1, .inl (cI, 16807, .inl (aI (fun _ => 0)))), (r1, .inl (cI, 9163, .inl (aI (fun _ => 0)))), (o_4, .inr (1, [.ref d2, .ref r2, .int (iI 0)])), (d2, .inl (cI, 16807, .inl (aI (fun _ => 0)))), (r2, .inl (cI, 9163, .inl (aI (fun _ => 0))))]) [0, 1, 2, 3, 4, 5, 6] (by decide) rfl
  try dsimp only at hq_5
  refine va_putF (D := D) (ci := 2) (v := .ref o_4) (ty := (.object "Tetherline$Spread")) (C := RX2) (T := TX2) (N := 7) hx hb hts uX2 tyX2 tyX2_ok nmX2 hown hK.1 hP hD hS 0 rfl rfl 3 (by decide) (hts _ q_160) (fun _ h9 => h9) rfl hin rfl (by decide +kernel) rfl rfl (Nat.le_of_ble_eq_true rfl) dX2_init_23 (fun H locs hP hD hS => ?_)
  have hP : va_P D vwCl [(tt, .inr (2, [.null, .int (iI 0), .ref o_1, .ref o_4, .int (iI 0), .int (iI 0), .int (iI 0)])), (o_1, .inr (1, [.ref d1, .ref r1, .int (iI 0)])), (d1, .inl (cI, 16807, .inl (aI (fun _ => 0)))), (r1, .inl (cI, 9163, .inl (aI (fun _ => 0)))), (o_4, .inr (1, [.ref d2, .ref r2, .int (iI 0)])), (d2, .inl (cI, 16807, .inl (aI (fun _ => 0)))), (r2, .inl (cI, 9163, .inl (aI (fun _ => 0))))] H := hP
  have hD : va_D A [(tt, .inr (2, [.null, .int (iI 0), .ref o_1, .ref o_4, .int (iI 0), .int (iI 0), .int (iI 0)])), (o_1, .inr (1, [.ref d1, .ref r1, .int (iI 0)])), (d1, .inl (cI, 16807, .inl (aI (fun _ => 0)))), (r1, .inl (cI, 9163, .inl (aI (fun _ => 0)))), (o_4, .inr (1, [.ref d2, .ref r2, .int (iI 0)])), (d2, .inl (cI, 16807, .inl (aI (fun _ => 0)))), (r2, .inl (cI, 9163, .inl (aI (fun _ => 0))))] := hD
  refine lv_aload_n hx hb dX2_init_26 rfl (lv_at hl 0 rfl) ?_
  refine va_new (ci := 0) (fs := [.int (iI 0), .int (iI 0), .null, .int (iI 0)]) (C := RX0) (T := TX0) (N := 4) hx hb hts uX0 tyX0 tyX0_ok hown (hts _ q_39) (hts _ q_40) (hts _ q_3) hK.1 hP hD hS hA rfl (fun j hj => by rcases (show j = 0 ∨ j = 1 ∨ j = 2 ∨ j = 3 by omega) with rfl | rfl | rfl | rfl <;> rfl) (Nat.le_of_ble_eq_true rfl) (Nat.le_of_ble_eq_true rfl) dX2_init_27 (fun o_7 H hP hD hS => ?_)
  have hP : va_P D vwCl [(tt, .inr (2, [.null, .int (iI 0), .ref o_1, .ref o_4, .int (iI 0), .int (iI 0), .int (iI 0)])), (o_1, .inr (1, [.ref d1, .ref r1, .int (iI 0)])), (d1, .inl (cI, 16807, .inl (aI (fun _ => 0)))), (r1, .inl (cI, 9163, .inl (aI (fun _ => 0)))), (o_4, .inr (1, [.ref d2, .ref r2, .int (iI 0)])), (d2, .inl (cI, 16807, .inl (aI (fun _ => 0)))), (r2, .inl (cI, 9163, .inl (aI (fun _ => 0)))), (o_7, .inr (0, [.int (iI 0), .int (iI 0), .null, .int (iI 0)]))] H := hP
  have hD : va_D A [(tt, .inr (2, [.null, .int (iI 0), .ref o_1, .ref o_4, .int (iI 0), .int (iI 0), .int (iI 0)])), (o_1, .inr (1, [.ref d1, .ref r1, .int (iI 0)])), (d1, .inl (cI, 16807, .inl (aI (fun _ => 0)))), (r1, .inl (cI, 9163, .inl (aI (fun _ => 0)))), (o_4, .inr (1, [.ref d2, .ref r2, .int (iI 0)])), (d2, .inl (cI, 16807, .inl (aI (fun _ => 0)))), (r2, .inl (cI, 9163, .inl (aI (fun _ => 0)))), (o_7, .inr (0, [.int (iI 0), .int (iI 0), .null, .int (iI 0)]))] := hD
  refine lv_dup hx hb dX2_init_30 rfl ?_
  refine zv_iconst hx hb dX2_init_31 ?_
  refine lv_iload_n hx hb dX2_init_32 rfl (lv_at hl 1 rfl) ?_
  refine zv_bipush hx hb dX2_init_33 (by decide) ?_
  refine zc_S (As := [.int (iI 3), .int (iI ca), .int (iI 7)]) (rest := [.ref o_7, .ref o_7, .ref tt]) (ws := [(tt, .inr (2, [.null, .int (iI 0), .ref o_1, .ref o_4, .int (iI 0), .int (iI 0), .int (iI 0)])), (o_1, .inr (1, [.ref d1, .ref r1, .int (iI 0)])), (d1, .inl (cI, 16807, .inl (aI (fun _ => 0)))), (r1, .inl (cI, 9163, .inl (aI (fun _ => 0)))), (o_4, .inr (1, [.ref d2, .ref r2, .int (iI 0)])), (d2, .inl (cI, 16807, .inl (aI (fun _ => 0)))), (r2, .inl (cI, 9163, .inl (aI (fun _ => 0)))), (o_7, .inr (0, [.int (iI 0), .int (iI 0), .null, .int (iI 0)]))]) (n := 3) hx hb (hml.trans hl.1.symm) hts hown hK hP (c_X2_between l D cI cJ 3 ca 7 (⟨by omega, by omega⟩) (⟨by omega, by omega⟩) (⟨by omega, by omega⟩)) (gd_S q_41 q_42 q_1 q_43) (by decide +kernel) rfl ⟨Nat.le_of_ble_eq_true rfl, Nat.le_of_ble_eq_true rfl⟩ ⟨Nat.le_of_ble_eq_true rfl, Nat.le_of_ble_eq_true rfl⟩ [] rfl rfl (Nat.le_of_ble_eq_true rfl) dX2_init_35 (fun r_8 hr_8 => ?_)
  subst r_8
  refine zv_top (y := clZ ca 3 7) (btZ (by decide)) ?_
  refine zv_iconst hx hb dX2_init_38 ?_
  refine lv_iload_n hx hb dX2_init_39 rfl (lv_at hl 2 rfl) ?_
  refine zv_bipush hx hb dX2_init_40 (by decide) ?_
  refine zc_S (As := [.int (iI 3), .int (iI cb), .int (iI 7)]) (rest := [.int (iI (clZ ca 3 7)), .ref o_7, .ref o_7, .ref tt]) (ws := [(tt, .inr (2, [.null, .int (iI 0), .ref o_1, .ref o_4, .int (iI 0), .int (iI 0), .int (iI 0)])), (o_1, .inr (1, [.ref d1, .ref r1, .int (iI 0)])), (d1, .inl (cI, 16807, .inl (aI (fun _ => 0)))), (r1, .inl (cI, 9163, .inl (aI (fun _ => 0)))), (o_4, .inr (1, [.ref d2, .ref r2, .int (iI 0)])), (d2, .inl (cI, 16807, .inl (aI (fun _ => 0)))), (r2, .inl (cI, 9163, .inl (aI (fun _ => 0)))), (o_7, .inr (0, [.int (iI 0), .int (iI 0), .null, .int (iI 0)]))]) (n := 3) hx hb (hml.trans hl.1.symm) hts hown hK hP (c_X2_between l D cI cJ 3 cb 7 (⟨by omega, by omega⟩) (⟨by omega, by omega⟩) (⟨by omega, by omega⟩)) (gd_S q_41 q_42 q_1 q_43) (by decide +kernel) rfl ⟨Nat.le_of_ble_eq_true rfl, Nat.le_of_ble_eq_true rfl⟩ ⟨Nat.le_of_ble_eq_true rfl, Nat.le_of_ble_eq_true rfl⟩ [] rfl rfl (Nat.le_of_ble_eq_true rfl) dX2_init_42 (fun r_9 hr_9 => ?_)
  subst r_9
  refine zv_top (y := clZ cb 3 7) (btZ (by decide)) ?_
  refine zm_I (As := [.int (iI (clZ ca 3 7)), .int (iI (clZ cb 3 7))]) (rest := [.ref o_7, .ref tt]) (ws := [(tt, .inr (2, [.null, .int (iI 0), .ref o_1, .ref o_4, .int (iI 0), .int (iI 0), .int (iI 0)])), (o_1, .inr (1, [.ref d1, .ref r1, .int (iI 0)])), (d1, .inl (cI, 16807, .inl (aI (fun _ => 0)))), (r1, .inl (cI, 9163, .inl (aI (fun _ => 0)))), (o_4, .inr (1, [.ref d2, .ref r2, .int (iI 0)])), (d2, .inl (cI, 16807, .inl (aI (fun _ => 0)))), (r2, .inl (cI, 9163, .inl (aI (fun _ => 0)))), (o_7, .inr (0, [.int (iI 0), .int (iI 0), .null, .int (iI 0)]))]) (wr := [(tt, .inr (2, [.null, .int (iI 0), .ref o_1, .ref o_4, .int (iI 0), .int (iI 0), .int (iI 0)])), (o_1, .inr (1, [.ref d1, .ref r1, .int (iI 0)])), (d1, .inl (cI, 16807, .inl (aI (fun _ => 0)))), (r1, .inl (cI, 9163, .inl (aI (fun _ => 0)))), (o_4, .inr (1, [.ref d2, .ref r2, .int (iI 0)])), (d2, .inl (cI, 16807, .inl (aI (fun _ => 0)))), (r2, .inl (cI, 9163, .inl (aI (fun _ => 0))))]) (n := 2) hx hb (hml.trans hl.1.symm) hts hown hK hP hD hS hA (c_X0_init l D cI cJ o_7 (clZ ca 3 7) (clZ cb 3 7) _) q_52 q_3 q_50 q_51 rfl (by decide +kernel) rfl ⟨Nat.le_of_ble_eq_true rfl, Nat.le_of_ble_eq_true rfl⟩ ⟨Nat.le_of_ble_eq_true rfl, Nat.le_of_ble_eq_true rfl⟩ [7] [0, 1, 2, 3, 4, 5, 6] rfl rfl (by decide) (by decide) (by decide) rfl (Nat.le_of_ble_eq_true rfl) dX2_init_45 (fun u H locs hq_10 hP hD hS => ?_)
  obtain ⟨pn, gn⟩ := u
  have hP := hP.sub (ws' := [(tt, .inr (2, [.null, .int (iI 0), .ref o_1, .ref o_4, .int (iI 0), .int (iI 0), .int (iI 0)])), (o_1, .inr (1, [.ref d1, .ref r1, .int (iI 0)])), (d1, .inl (cI, 16807, .inl (aI (fun _ => 0)))), (r1, .inl (cI, 9163, .inl (aI (fun _ => 0)))), (o_4, .inr (1, [.ref d2, .ref r2, .int (iI 0)])), (d2, .inl (cI, 16807, .inl (aI (fun _ => 0)))), (r2, .inl (cI, 9163, .inl (aI (fun _ => 0)))), (o_7, .inr (0, [.int (iI (clZ ca 3 7)), .int (iI (clZ cb 3 7)), .ref pn, .int (iI 0)])), (pn, .inl (cI, 49, .inl (aI gn)))]) [0, 1, 2, 3, 4, 5, 6, 7, 8] rfl
  have hD := hD.sub (ws' := [(tt, .inr (2, [.null, .int (iI 0), .ref o_1, .ref o_4, .int (iI 0), .int (iI 0), .int (iI 0)])), (o_1, .inr (1, [.ref d1, .ref r1, .int (iI 0)])), (d1, .inl (cI, 16807, .inl (aI (fun _ => 0)))), (r1, .inl (cI, 9163, .inl (aI (fun _ => 0)))), (o_4, .inr (1, [.ref d2, .ref r2, .int (iI 0)])), (d2, .inl (cI, 16807, .inl (aI (fun _ => 0)))), (r2, .inl (cI, 9163, .inl (aI (fun _ => 0)))), (o_7, .inr (0, [.int (iI (clZ ca 3 7)), .int (iI (clZ cb 3 7)), .ref pn, .int (iI 0)])), (pn, .inl (cI, 49, .inl (aI gn)))]) [0, 1, 2, 3, 4, 5, 6, 7, 8] (by decide) rfl
  try dsimp only at hq_10
  have hgn := hq_10
  refine va_putF (D := D) (ci := 2) (v := .ref o_7) (ty := (.object "Tetherline$Floor")) (C := RX2) (T := TX2) (N := 7) hx hb hts uX2 tyX2 tyX2_ok nmX2 hown hK.1 hP hD hS 0 rfl rfl 0 (by decide) (hts _ q_157) (fun _ h9 => h9) rfl hin rfl (by decide +kernel) rfl rfl (Nat.le_of_ble_eq_true rfl) dX2_init_48 (fun H locs hP hD hS => ?_)
  have hP : va_P D vwCl [(tt, .inr (2, [.ref o_7, .int (iI 0), .ref o_1, .ref o_4, .int (iI 0), .int (iI 0), .int (iI 0)])), (o_1, .inr (1, [.ref d1, .ref r1, .int (iI 0)])), (d1, .inl (cI, 16807, .inl (aI (fun _ => 0)))), (r1, .inl (cI, 9163, .inl (aI (fun _ => 0)))), (o_4, .inr (1, [.ref d2, .ref r2, .int (iI 0)])), (d2, .inl (cI, 16807, .inl (aI (fun _ => 0)))), (r2, .inl (cI, 9163, .inl (aI (fun _ => 0)))), (o_7, .inr (0, [.int (iI (clZ ca 3 7)), .int (iI (clZ cb 3 7)), .ref pn, .int (iI 0)])), (pn, .inl (cI, 49, .inl (aI gn)))] H := hP
  have hD : va_D A [(tt, .inr (2, [.ref o_7, .int (iI 0), .ref o_1, .ref o_4, .int (iI 0), .int (iI 0), .int (iI 0)])), (o_1, .inr (1, [.ref d1, .ref r1, .int (iI 0)])), (d1, .inl (cI, 16807, .inl (aI (fun _ => 0)))), (r1, .inl (cI, 9163, .inl (aI (fun _ => 0)))), (o_4, .inr (1, [.ref d2, .ref r2, .int (iI 0)])), (d2, .inl (cI, 16807, .inl (aI (fun _ => 0)))), (r2, .inl (cI, 9163, .inl (aI (fun _ => 0)))), (o_7, .inr (0, [.int (iI (clZ ca 3 7)), .int (iI (clZ cb 3 7)), .ref pn, .int (iI 0)])), (pn, .inl (cI, 49, .inl (aI gn)))] := hD
  refine lv_aload_n hx hb dX2_init_51 rfl (lv_at hl 0 rfl) ?_
  refine zv_iconst hx hb dX2_init_52 ?_
  refine lv_iload_n hx hb dX2_init_53 rfl (lv_at hl 3 rfl) ?_
  refine zv_bipush hx hb dX2_init_54 (by decide) ?_
  refine zc_S (As := [.int (iI 1), .int (iI cd), .int (iI 60)]) (rest := [.ref tt]) (ws := [(tt, .inr (2, [.ref o_7, .int (iI 0), .ref o_1, .ref o_4, .int (iI 0), .int (iI 0), .int (iI 0)])), (o_1, .inr (1, [.ref d1, .ref r1, .int (iI 0)])), (d1, .inl (cI, 16807, .inl (aI (fun _ => 0)))), (r1, .inl (cI, 9163, .inl (aI (fun _ => 0)))), (o_4, .inr (1, [.ref d2, .ref r2, .int (iI 0)])), (d2, .inl (cI, 16807, .inl (aI (fun _ => 0)))), (r2, .inl (cI, 9163, .inl (aI (fun _ => 0)))), (o_7, .inr (0, [.int (iI (clZ ca 3 7)), .int (iI (clZ cb 3 7)), .ref pn, .int (iI 0)])), (pn, .inl (cI, 49, .inl (aI gn)))]) (n := 3) hx hb (hml.trans hl.1.symm) hts hown hK hP (c_X2_between l D cI cJ 1 cd 60 (⟨by omega, by omega⟩) (⟨by omega, by omega⟩) (⟨by omega, by omega⟩)) (gd_S q_41 q_42 q_1 q_43) (by decide +kernel) rfl ⟨Nat.le_of_ble_eq_true rfl, Nat.le_of_ble_eq_true rfl⟩ ⟨Nat.le_of_ble_eq_true rfl, Nat.le_of_ble_eq_true rfl⟩ [] rfl rfl (Nat.le_of_ble_eq_true rfl) dX2_init_56 (fun r_12 hr_12 => ?_)
  subst r_12
  refine zv_top (y := clZ cd 1 60) (btZ (by decide)) ?_
  refine va_putF (D := D) (ci := 2) (v := .int (iI (clZ cd 1 60))) (ty := .int) (C := RX2) (T := TX2) (N := 7) hx hb hts uX2 tyX2 tyX2_ok nmX2 hown hK.1 hP hD hS 0 rfl rfl 1 (by decide) (hts _ q_158) (fun _ h9 => h9) rfl hin rfl (by decide +kernel) rfl rfl (Nat.le_of_ble_eq_true rfl) dX2_init_59 (fun H locs hP hD hS => ?_)
  have hP : va_P D vwCl [(tt, .inr (2, [.ref o_7, .int (iI (clZ cd 1 60)), .ref o_1, .ref o_4, .int (iI 0), .int (iI 0), .int (iI 0)])), (o_1, .inr (1, [.ref d1, .ref r1, .int (iI 0)])), (d1, .inl (cI, 16807, .inl (aI (fun _ => 0)))), (r1, .inl (cI, 9163, .inl (aI (fun _ => 0)))), (o_4, .inr (1, [.ref d2, .ref r2, .int (iI 0)])), (d2, .inl (cI, 16807, .inl (aI (fun _ => 0)))), (r2, .inl (cI, 9163, .inl (aI (fun _ => 0)))), (o_7, .inr (0, [.int (iI (clZ ca 3 7)), .int (iI (clZ cb 3 7)), .ref pn, .int (iI 0)])), (pn, .inl (cI, 49, .inl (aI gn)))] H := hP
  have hD : va_D A [(tt, .inr (2, [.ref o_7, .int (iI (clZ cd 1 60)), .ref o_1, .ref o_4, .int (iI 0), .int (iI 0), .int (iI 0)])), (o_1, .inr (1, [.ref d1, .ref r1, .int (iI 0)])), (d1, .inl (cI, 16807, .inl (aI (fun _ => 0)))), (r1, .inl (cI, 9163, .inl (aI (fun _ => 0)))), (o_4, .inr (1, [.ref d2, .ref r2, .int (iI 0)])), (d2, .inl (cI, 16807, .inl (aI (fun _ => 0)))), (r2, .inl (cI, 9163, .inl (aI (fun _ => 0)))), (o_7, .inr (0, [.int (iI (clZ ca 3 7)), .int (iI (clZ cb 3 7)), .ref pn, .int (iI 0)])), (pn, .inl (cI, 49, .inl (aI gn)))] := hD
  refine lv_aload_n hx hb dX2_init_62 rfl (lv_at hl 0 rfl) ?_
  refine zv_iconst hx hb dX2_init_63 ?_
  refine zv_iconst hx hb dX2_init_64 ?_
  refine zc_S (As := [.int (iI 0), .int (iI 0)]) (rest := [.ref tt]) (ws := [(tt, .inr (2, [.ref o_7, .int (iI (clZ cd 1 60)), .ref o_1, .ref o_4, .int (iI 0), .int (iI 0), .int (iI 0)])), (o_1, .inr (1, [.ref d1, .ref r1, .int (iI 0)])), (d1, .inl (cI, 16807, .inl (aI (fun _ => 0)))), (r1, .inl (cI, 9163, .inl (aI (fun _ => 0)))), (o_4, .inr (1, [.ref d2, .ref r2, .int (iI 0)])), (d2, .inl (cI, 16807, .inl (aI (fun _ => 0)))), (r2, .inl (cI, 9163, .inl (aI (fun _ => 0)))), (o_7, .inr (0, [.int (iI (clZ ca 3 7)), .int (iI (clZ cb 3 7)), .ref pn, .int (iI 0)])), (pn, .inl (cI, 49, .inl (aI gn)))]) (n := 2) hx hb (hml.trans hl.1.symm) hts hown hK hP (c_X2_squareAt l D cI cJ 0 0) (gd_S q_70 q_71 q_1 q_72) (by decide +kernel) rfl ⟨Nat.le_of_ble_eq_true rfl, Nat.le_of_ble_eq_true rfl⟩ ⟨Nat.le_of_ble_eq_true rfl, Nat.le_of_ble_eq_true rfl⟩ [] rfl rfl (Nat.le_of_ble_eq_true rfl) dX2_init_65 (fun r_13 hr_13 => ?_)
  subst r_13
  refine zv_top (y := 0) (rfl) ?_
  refine va_put (D := D) (ci := 2) (v := .int (iI 0)) (ty := .int) (C := RX2) (T := TX2) (N := 7) hx hb hts uX2 tyX2 tyX2_ok nmX2 hown hK.1 hP hD hS 0 rfl rfl 4 (by decide) (hts _ q_161) (fun _ h9 => h9) rfl (by decide +kernel) rfl rfl (Nat.le_of_ble_eq_true rfl) dX2_init_68 (fun H locs hP hD hS => ?_)
  have hP : va_P D vwCl [(tt, .inr (2, [.ref o_7, .int (iI (clZ cd 1 60)), .ref o_1, .ref o_4, .int (iI 0), .int (iI 0), .int (iI 0)])), (o_1, .inr (1, [.ref d1, .ref r1, .int (iI 0)])), (d1, .inl (cI, 16807, .inl (aI (fun _ => 0)))), (r1, .inl (cI, 9163, .inl (aI (fun _ => 0)))), (o_4, .inr (1, [.ref d2, .ref r2, .int (iI 0)])), (d2, .inl (cI, 16807, .inl (aI (fun _ => 0)))), (r2, .inl (cI, 9163, .inl (aI (fun _ => 0)))), (o_7, .inr (0, [.int (iI (clZ ca 3 7)), .int (iI (clZ cb 3 7)), .ref pn, .int (iI 0)])), (pn, .inl (cI, 49, .inl (aI gn)))] H := hP
  have hD : va_D A [(tt, .inr (2, [.ref o_7, .int (iI (clZ cd 1 60)), .ref o_1, .ref o_4, .int (iI 0), .int (iI 0), .int (iI 0)])), (o_1, .inr (1, [.ref d1, .ref r1, .int (iI 0)])), (d1, .inl (cI, 16807, .inl (aI (fun _ => 0)))), (r1, .inl (cI, 9163, .inl (aI (fun _ => 0)))), (o_4, .inr (1, [.ref d2, .ref r2, .int (iI 0)])), (d2, .inl (cI, 16807, .inl (aI (fun _ => 0)))), (r2, .inl (cI, 9163, .inl (aI (fun _ => 0)))), (o_7, .inr (0, [.int (iI (clZ ca 3 7)), .int (iI (clZ cb 3 7)), .ref pn, .int (iI 0)])), (pn, .inl (cI, 49, .inl (aI gn)))] := hD
  refine lv_aload_n hx hb dX2_init_71 rfl (lv_at hl 0 rfl) ?_
  refine lv_aload_n hx hb dX2_init_72 rfl (lv_at hl 0 rfl) ?_
  refine va_get (D := D) (ci := 2) (v := .int (iI 0)) (C := RX2) (T := TX2) (N := 7) hx hb hts uX2 hown hK.1 hP 0 rfl rfl 4 (by decide) (hts _ q_161) (fun _ h9 => h9) rfl dX2_init_73 ?_
  refine zv_iconst hx hb dX2_init_76 ?_
  refine zc_S (As := [.int (iI 0), .int (iI 0)]) (rest := [.ref tt]) (ws := [(tt, .inr (2, [.ref o_7, .int (iI (clZ cd 1 60)), .ref o_1, .ref o_4, .int (iI 0), .int (iI 0), .int (iI 0)])), (o_1, .inr (1, [.ref d1, .ref r1, .int (iI 0)])), (d1, .inl (cI, 16807, .inl (aI (fun _ => 0)))), (r1, .inl (cI, 9163, .inl (aI (fun _ => 0)))), (o_4, .inr (1, [.ref d2, .ref r2, .int (iI 0)])), (d2, .inl (cI, 16807, .inl (aI (fun _ => 0)))), (r2, .inl (cI, 9163, .inl (aI (fun _ => 0)))), (o_7, .inr (0, [.int (iI (clZ ca 3 7)), .int (iI (clZ cb 3 7)), .ref pn, .int (iI 0)])), (pn, .inl (cI, 49, .inl (aI gn)))]) (n := 2) hx hb (hml.trans hl.1.symm) hts hown hK hP (c_X2_placeOf l D cI cJ 0 0) (gd_S q_73 q_74 q_1 q_75) (by decide +kernel) rfl ⟨Nat.le_of_ble_eq_true rfl, Nat.le_of_ble_eq_true rfl⟩ ⟨Nat.le_of_ble_eq_true rfl, Nat.le_of_ble_eq_true rfl⟩ [] rfl rfl (Nat.le_of_ble_eq_true rfl) dX2_init_77 (fun r_14 hr_14 => ?_)
  subst r_14
  refine zv_top (y := 0) (rfl) ?_
  refine va_put (D := D) (ci := 2) (v := .int (iI 0)) (ty := .int) (C := RX2) (T := TX2) (N := 7) hx hb hts uX2 tyX2 tyX2_ok nmX2 hown hK.1 hP hD hS 0 rfl rfl 5 (by decide) (hts _ q_162) (fun _ h9 => h9) rfl (by decide +kernel) rfl rfl (Nat.le_of_ble_eq_true rfl) dX2_init_80 (fun H locs hP hD hS => ?_)
  have hP : va_P D vwCl [(tt, .inr (2, [.ref o_7, .int (iI (clZ cd 1 60)), .ref o_1, .ref o_4, .int (iI 0), .int (iI 0), .int (iI 0)])), (o_1, .inr (1, [.ref d1, .ref r1, .int (iI 0)])), (d1, .inl (cI, 16807, .inl (aI (fun _ => 0)))), (r1, .inl (cI, 9163, .inl (aI (fun _ => 0)))), (o_4, .inr (1, [.ref d2, .ref r2, .int (iI 0)])), (d2, .inl (cI, 16807, .inl (aI (fun _ => 0)))), (r2, .inl (cI, 9163, .inl (aI (fun _ => 0)))), (o_7, .inr (0, [.int (iI (clZ ca 3 7)), .int (iI (clZ cb 3 7)), .ref pn, .int (iI 0)])), (pn, .inl (cI, 49, .inl (aI gn)))] H := hP
  have hD : va_D A [(tt, .inr (2, [.ref o_7, .int (iI (clZ cd 1 60)), .ref o_1, .ref o_4, .int (iI 0), .int (iI 0), .int (iI 0)])), (o_1, .inr (1, [.ref d1, .ref r1, .int (iI 0)])), (d1, .inl (cI, 16807, .inl (aI (fun _ => 0)))), (r1, .inl (cI, 9163, .inl (aI (fun _ => 0)))), (o_4, .inr (1, [.ref d2, .ref r2, .int (iI 0)])), (d2, .inl (cI, 16807, .inl (aI (fun _ => 0)))), (r2, .inl (cI, 9163, .inl (aI (fun _ => 0)))), (o_7, .inr (0, [.int (iI (clZ ca 3 7)), .int (iI (clZ cb 3 7)), .ref pn, .int (iI 0)])), (pn, .inl (cI, 49, .inl (aI gn)))] := hD
  have hbC := clZ_b (a := ca) (b := 3) (d := 7) (by decide)
  have hbR := clZ_b (a := cb) (b := 3) (d := 7) (by decide)
  have hg9 : GdZ (clZ ca 3 7) (clZ cb 3 7) (fun _ => -1) (0 * 343) := GdZ_mk (a := 0) (b := 0) hbC.2 hbR.2 (by decide) (by omega) (by decide) (by omega) rfl
  refine lv_aload_n hx hb dX2_init_83 rfl (lv_at hl 0 rfl) ?_
  refine zm_Vv (As := []) (rest := []) (ws := [(tt, .inr (2, [.ref o_7, .int (iI (clZ cd 1 60)), .ref o_1, .ref o_4, .int (iI 0), .int (iI 0), .int (iI 0)])), (o_1, .inr (1, [.ref d1, .ref r1, .int (iI 0)])), (d1, .inl (cI, 16807, .inl (aI (fun _ => 0)))), (r1, .inl (cI, 9163, .inl (aI (fun _ => 0)))), (o_4, .inr (1, [.ref d2, .ref r2, .int (iI 0)])), (d2, .inl (cI, 16807, .inl (aI (fun _ => 0)))), (r2, .inl (cI, 9163, .inl (aI (fun _ => 0)))), (o_7, .inr (0, [.int (iI (clZ ca 3 7)), .int (iI (clZ cb 3 7)), .ref pn, .int (iI 0)])), (pn, .inl (cI, 49, .inl (aI gn)))]) (wr := [(o_4, .inr (1, [.ref d2, .ref r2, .int (iI 0)])), (d2, .inl (cI, 16807, .inl (aI (fun _ => 0)))), (r2, .inl (cI, 9163, .inl (aI (fun _ => 0))))]) (n := 0) hx hb (hml.trans hl.1.symm) hts hown hK hP hD hS hA (c_X2_measureLengths l D cI cJ tt o_7 o_1 o_4 pn d1 r1 (clZ cd 1 60) 0 0 0 (clZ ca 3 7) (clZ cb 3 7) 0 0 gn (fun _ => 0) (fun _ => 0) (fun _ => -1) (FlOK_0 hbC hbR hgn) hg9 _) (gd_V q_76 q_78 q_1000 q_1 q_79) (by decide +kernel) rfl ⟨Nat.le_of_ble_eq_true rfl, Nat.le_of_ble_eq_true rfl⟩ ⟨Nat.le_of_ble_eq_true rfl, Nat.le_of_ble_eq_true rfl⟩ [0, 7, 8, 1, 2, 3] [4, 5, 6] rfl rfl (by decide) (by decide) (by decide) 0 (ci := 2) rfl rfl rfl rfl (Nat.le_of_ble_eq_true rfl) dX2_init_84 (fun u H locs hq_15 hP hD hS => ?_)
  obtain ⟨g9, h9, c9⟩ := u
  have hP := hP.sub (ws' := [(tt, .inr (2, [.ref o_7, .int (iI (clZ cd 1 60)), .ref o_1, .ref o_4, .int (iI 0), .int (iI 0), .int (iI 0)])), (o_1, .inr (1, [.ref d1, .ref r1, .int (iI c9)])), (d1, .inl (cI, 16807, .inl (aI g9))), (r1, .inl (cI, 9163, .inl (aI h9))), (o_4, .inr (1, [.ref d2, .ref r2, .int (iI 0)])), (d2, .inl (cI, 16807, .inl (aI (fun _ => 0)))), (r2, .inl (cI, 9163, .inl (aI (fun _ => 0)))), (o_7, .inr (0, [.int (iI (clZ ca 3 7)), .int (iI (clZ cb 3 7)), .ref pn, .int (iI 0)])), (pn, .inl (cI, 49, .inl (aI gn)))]) [3, 6, 7, 8, 0, 1, 2, 4, 5] rfl
  have hD := hD.sub (ws' := [(tt, .inr (2, [.ref o_7, .int (iI (clZ cd 1 60)), .ref o_1, .ref o_4, .int (iI 0), .int (iI 0), .int (iI 0)])), (o_1, .inr (1, [.ref d1, .ref r1, .int (iI c9)])), (d1, .inl (cI, 16807, .inl (aI g9))), (r1, .inl (cI, 9163, .inl (aI h9))), (o_4, .inr (1, [.ref d2, .ref r2, .int (iI 0)])), (d2, .inl (cI, 16807, .inl (aI (fun _ => 0)))), (r2, .inl (cI, 9163, .inl (aI (fun _ => 0)))), (o_7, .inr (0, [.int (iI (clZ ca 3 7)), .int (iI (clZ cb 3 7)), .ref pn, .int (iI 0)])), (pn, .inl (cI, 49, .inl (aI gn)))]) [3, 6, 7, 8, 0, 1, 2, 4, 5] (by decide) rfl
  try dsimp only at hq_15
  have hms := hq_15
  have hP := hP.sub (ws' := [(tt, .inr (2, [.ref o_7, .int (iI (clZ cd 1 60)), .ref o_1, .ref o_4, .int (iI 0), .int (iI 0), .int (iI 0)])), (o_7, .inr (0, [.int (iI (clZ ca 3 7)), .int (iI (clZ cb 3 7)), .ref pn, .int (iI 0)])), (pn, .inl (cI, 49, .inl (aI gn))), (o_1, .inr (1, [.ref d1, .ref r1, .int (iI c9)])), (d1, .inl (cI, 16807, .inl (aI g9))), (r1, .inl (cI, 9163, .inl (aI h9))), (o_4, .inr (1, [.ref d2, .ref r2, .int (iI 0)])), (d2, .inl (cI, 16807, .inl (aI (fun _ => 0)))), (r2, .inl (cI, 9163, .inl (aI (fun _ => 0))))]) [0, 7, 8, 1, 2, 3, 4, 5, 6] rfl
  have hD := hD.sub (ws' := [(tt, .inr (2, [.ref o_7, .int (iI (clZ cd 1 60)), .ref o_1, .ref o_4, .int (iI 0), .int (iI 0), .int (iI 0)])), (o_7, .inr (0, [.int (iI (clZ ca 3 7)), .int (iI (clZ cb 3 7)), .ref pn, .int (iI 0)])), (pn, .inl (cI, 49, .inl (aI gn))), (o_1, .inr (1, [.ref d1, .ref r1, .int (iI c9)])), (d1, .inl (cI, 16807, .inl (aI g9))), (r1, .inl (cI, 9163, .inl (aI h9))), (o_4, .inr (1, [.ref d2, .ref r2, .int (iI 0)])), (d2, .inl (cI, 16807, .inl (aI (fun _ => 0)))), (r2, .inl (cI, 9163, .inl (aI (fun _ => 0))))]) [0, 7, 8, 1, 2, 3, 4, 5, 6] (by decide) rfl
  exact MM_vret (o_7, pn, o_1, d1, r1, o_4, d2, r2, gn, g9, h9, c9) hx hb hr hlk hP hD hS (Nat.le_of_ble_eq_true rfl) (Nat.le_of_ble_eq_true rfl) dX2_init_87 (⟨hgn, hms⟩)
end
section
/-! the squares along a walk; parity; the crawler's ways -/
def sqs (z : Int) : Int := z / 343 / 7 + z / 343 % 7
section P22M
variable {C R np : Int} {N : Int → Int} {gn : Nat → Int} {b lim : Int}
theorem aft_sq (hF : FlOK C R np N gn) {z d : Int} (hz : PlOK R z) (hd0 : 0 ≤ d) (hd : d ≤ 3) (h : aftZ C R N z d ≠ -1) :
    (d = 0 ∧ aftZ C R N z d / 343 / 7 = z / 343 / 7 ∧ aftZ C R N z d / 343 % 7 = z / 343 % 7 - 1) ∨ (d = 1 ∧ aftZ C R N z d / 343 / 7 = z / 343 / 7 + 1 ∧ aftZ C R N z d / 343 % 7 = z / 343 % 7) ∨ (d = 2 ∧ aftZ C R N z d / 343 / 7 = z / 343 / 7 ∧ aftZ C R N z d / 343 % 7 = z / 343 % 7 + 1) ∨ (d = 3 ∧ aftZ C R N z d / 343 / 7 = z / 343 / 7 - 1 ∧ aftZ C R N z d / 343 % 7 = z / 343 % 7) := by
  obtain ⟨hC1, hC2, hR1, hR2, -, -, -, -⟩ := id hF
  obtain ⟨h0, h1, h2⟩ := hz
  rcases (show d = 0 ∨ d = 1 ∨ d = 2 ∨ d = 3 by omega) with rfl | rfl | rfl | rfl
  · rw [aftZ_0] at h ⊢
    obtain ⟨e1, e2, -⟩ := plZ_c hR2 (by omega) h
    exact Or.inl ⟨rfl, e1, e2⟩
  · rw [aftZ_1] at h ⊢
    have hw := wRZ_b hF (c := z / 343 / 7) (r := z / 343 % 7) (w := z % 343) (by omega) (by omega) (by omega)
    obtain ⟨e1, e2, -⟩ := plZ_c hR2 hw.1 h
    exact Or.inr (Or.inl ⟨rfl, e1, e2⟩)
  · rw [aftZ_2] at h ⊢
    obtain ⟨e1, e2, -⟩ := plZ_c hR2 (by omega) h
    exact Or.inr (Or.inr (Or.inl ⟨rfl, e1, e2⟩))
  · rw [aftZ_3] at h ⊢
    have hw := wLZ_b hF (c := z / 343 / 7 - 1) (r := z / 343 % 7) (w := z % 343) (by omega) (by omega) (by omega)
    obtain ⟨e1, e2, -⟩ := plZ_c hR2 hw.1 h
    exact Or.inr (Or.inr (Or.inr ⟨rfl, e1, e2⟩))
theorem aft_sqs (hF : FlOK C R np N gn) {z d : Int} (hz : PlOK R z) (hd0 : 0 ≤ d) (hd : d ≤ 3) (h : aftZ C R N z d ≠ -1) : sqs (aftZ C R N z d) = sqs z + 1 ∨ sqs (aftZ C R N z d) = sqs z - 1 := by
  unfold sqs
  rcases aft_sq hF hz hd0 hd h with ⟨-, e1, e2⟩ | ⟨-, e1, e2⟩ | ⟨-, e1, e2⟩ | ⟨-, e1, e2⟩ <;> rw [e1, e2] <;> omega
theorem wk_par (hF : FlOK C R np N gn) : ∀ (k : Nat) (x y : Int), PlOK R x → wkZ C R N k x y → ((k : Int) + sqs x + sqs y) % 2 = 0 := by
  intro k
  induction k with
  | zero => intro x y hx h; have h : x = y := h; subst h; omega
  | succ k ih =>
    intro x y hx h
    obtain ⟨d, d0, d3, dn, h⟩ := h
    have h1 := ih _ y (aftZ_pl hF hx dn) h
    have h2 := aft_sqs hF hx d0 d3 dn
    omega
theorem LZ_par (hF : FlOK C R np N gn) (hb : GdZ C R N (b * 343)) {z : Int} (hz : 0 ≤ LZ C R N b z) : (LZ C R N b z + sqs (b * 343) + sqs z) % 2 = 0 := by
  have h := wk_par hF _ _ _ hb.pl (LZ_ex hF hb (LZ C R N b z).toNat z (by omega))
  rw [Int.toNat_of_nonneg hz] at h
  exact h
theorem LZ_far (hF : FlOK C R np N gn) (hb : GdZ C R N (b * 343)) {z : Int} (hz : 0 ≤ LZ C R N b z) : apZ (b * 343) z ≤ LZ C R N b z := by
  have h := wkZ_ap hF _ _ _ hb.pl (LZ_ex hF hb (LZ C R N b z).toNat z (by omega))
  omega
theorem LZ_st (hF : FlOK C R np N gn) (hb : GdZ C R N (b * 343)) {z d : Int} (hz : 0 ≤ LZ C R N b z) (d0 : 0 ≤ d) (d3 : d ≤ 3) (hn : aftZ C R N z d ≠ -1) : 0 ≤ LZ C R N b (aftZ C R N z d) ∧ (LZ C R N b (aftZ C R N z d) = LZ C R N b z + 1 ∨ LZ C R N b (aftZ C R N z d) = LZ C R N b z - 1) := by
  have h1 := LZ_to hF hb hz d0 d3 hn
  have hg := LZ_gd hF hb hz
  have hk := aftZ_back hF hg d0 d3 hn
  have hz0 := hg.1
  have h2 := LZ_to hF hb h1.1 (rvZ_b d).1 (rvZ_b d).2 (by rw [hk.2]; omega)
  rw [hk.2] at h2
  have p1 := LZ_par hF hb hz
  have p2 := LZ_par hF hb h1.1
  have hs := aft_sqs hF hg.pl d0 d3 hn
  omega
theorem LZ_z (hF : FlOK C R np N gn) (hb : GdZ C R N (b * 343)) {z : Int} (hz : LZ C R N b z = 0) : z = b * 343 := (LZ_ex hF hb 0 z hz).symm
theorem al_end (hF : FlOK C R np N gn) (hb : GdZ C R N (b * 343)) {z : Int} (hz : 0 ≤ LZ C R N b z) : alZ C R N (LZ C R N b) z (LZ C R N b z).toNat = b * 343 := by
  have h := al_L hF hb hz (LZ C R N b z).toNat (by omega)
  exact LZ_z hF hb (by omega)
theorem ast_ne {L : Int → Int} {z d : Int} (h : astZ C R N L lim z d ≠ -1) : astZ C R N L lim z d = aftZ C R N z d ∧ aftZ C R N z d ≠ -1 ∧ L (aftZ C R N z d) ≠ -1 ∧ L (aftZ C R N z d) ≤ lim := by
  unfold astZ at h ⊢
  split at h
  · rename_i hc
    rw [if_pos hc]
    exact ⟨rfl, h, hc⟩
  · exact absurd rfl h
theorem bi_wk {L : Int → Int} {s : Int} {G : Int → Prop} {S : BS} {k : Nat} (h : BI (astZ C R N L lim) s G S k 0) (hG : ∀ z, G z → 0 ≤ z) : ∀ (n : Nat) (z : Int), z ∈ S.1 → S.2.1 z = (n : Int) → wkZ C R N n s z := by
  obtain ⟨-, -, h3, h4, h5, h6, -, -, -⟩ := id h
  have hnn : ∀ z ∈ S.1, 0 ≤ S.2.1 z := fun z hz => by
    rcases h3 z with g | g
    · exact absurd hz g.2
    · exact g.1
  intro n
  induction n with
  | zero =>
    intro z hz hD
    by_cases hs : z = s
    · exact hs.symm
    · obtain ⟨g1, g2, -⟩ := h6 z hz hs
      have := hnn _ g1
      omega
  | succ n ih =>
    intro z hz hD
    by_cases hs : z = s
    · rw [hs, h5.1] at hD; omega
    · obtain ⟨g1, g2, e, e0, e3, he⟩ := h6 z hz hs
      have hz0 := hG z (h4 z hz)
      have ha := ast_ne (L := L) (lim := lim) (z := S.2.2 z) (d := e) (by rw [he]; omega)
      have h7 := ih _ g1 (by omega)
      have h8 := wkZ_snoc n s _ e h7 e0 e3 ha.2.1
      rw [← ha.1, he] at h8
      exact h8
theorem bsK_b {nb : Int → Int → Int} {S : BS} {f : Int} (h : ∀ z, S.2.1 z < (S.1.length : Int)) : ∀ d : Nat, ∀ z, (bsK nb S f d).2.1 z < ((bsK nb S f d).1.length : Int) := by
  intro d
  induction d with
  | zero => exact h
  | succ d ih => exact bsR_b ih
theorem BI_Q {nb : Int → Int → Int} {s : Int} {G : Int → Prop} (hG : ∀ f d : Int, 0 ≤ d → d ≤ 3 → G f → nb f d ≠ -1 → G (nb f d)) (q : Int) : ∀ (n i : Nat) (S : BS), BI nb s G S i 0 → (∀ (j : Nat) (y : Int), j < i → S.1[j]? = some y → y / 343 ≠ q) → (∀ z, S.2.1 z < (S.1.length : Int)) →
    ∃ k, BI nb s G (bsF nb q n i S).2 k 0 ∧ (∀ (j : Nat) (y : Int), j < k → (bsF nb q n i S).2.1[j]? = some y → y / 343 ≠ q) ∧ (∀ z, (bsF nb q n i S).2.2.1 z < ((bsF nb q n i S).2.1.length : Int)) ∧ (((bsF nb q n i S).1 = -1 ∧ ((bsF nb q n i S).2.1.length ≤ k ∨ k = i + n)) ∨ ((bsF nb q n i S).2.1[k]? = some (bsF nb q n i S).1 ∧ (bsF nb q n i S).1 / 343 = q)) := by
  intro n
  induction n with
  | zero => intro i S h hp hd; exact ⟨i, h, hp, hd, Or.inl ⟨rfl, Or.inr rfl⟩⟩
  | succ n ih =>
    intro i S h hp hd
    by_cases hl : i < S.1.length
    · by_cases hq : bsAt S i / 343 = q
      · rw [show bsF nb q (n + 1) i S = (bsAt S i, S) by show (if i < S.1.length then (if bsAt S i / 343 = q then (bsAt S i, S) else bsF nb q n (i + 1) (bsK nb S (bsAt S i) 4)) else (-1, S)) = _; rw [if_pos hl, if_pos hq]]
        exact ⟨i, h, hp, hd, Or.inr ⟨bsAt_some hl, hq⟩⟩
      · rw [show bsF nb q (n + 1) i S = bsF nb q n (i + 1) (bsK nb S (bsAt S i) 4) by show (if i < S.1.length then (if bsAt S i / 343 = q then (bsAt S i, S) else bsF nb q n (i + 1) (bsK nb S (bsAt S i) 4)) else (-1, S)) = _; rw [if_pos hl, if_neg hq]]
        obtain ⟨k, k1, k2, k3, k4⟩ := ih (i + 1) _ (BI_i (BI_K h (bsAt_some hl) (fun d h0 h3 => hG _ d h0 h3) 4 (Nat.le_refl _)) (by decide)) (fun j y hj hy => by
          have hj2 := bsAt_some (S := S) (i := j) (by omega)
          have hj3 := bsK_at nb S (bsAt S i) 4 j _ hj2
          rw [hj3] at hy
          have hy := Option.some.inj hy
          rw [← hy]
          rcases Nat.lt_or_eq_of_le (Nat.le_of_lt_succ hj) with g | g
          · exact hp j _ g hj2
          · rw [g]; exact hq) (bsK_b hd 4)
        exact ⟨k, k1, k2, k3, k4.imp (fun g => ⟨g.1, g.2.imp id (fun g => by omega)⟩) id⟩
    · rw [show bsF nb q (n + 1) i S = (-1, S) by show (if i < S.1.length then (if bsAt S i / 343 = q then (bsAt S i, S) else bsF nb q n (i + 1) (bsK nb S (bsAt S i) 4)) else (-1, S)) = _; rw [if_neg hl]]
      exact ⟨i, h, hp, hd, Or.inl ⟨rfl, Or.inl (Nat.le_of_not_lt hl)⟩⟩
def GSZ (C R : Int) (N : Int → Int) (b lim z : Int) : Prop := GdZ C R N z ∧ 0 ≤ LZ C R N b z ∧ LZ C R N b z ≤ lim
/-- the crawler's search for a square -/
def goX (C R : Int) (N : Int → Int) (b lim P q : Int) : Int × BS := bsF (astZ C R N (LZ C R N b) lim) q 16807 0 (bs0 P)
theorem go_q (hF : FlOK C R np N gn) (hb : GdZ C R N (b * 343)) {P : Int} (hP : 0 ≤ LZ C R N b P) (hPl : LZ C R N b P ≤ lim) (q : Int) :
    ∃ k, BI (astZ C R N (LZ C R N b) lim) P (GSZ C R N b lim) (goX C R N b lim P q).2 k 0 ∧ (∀ (j : Nat) (y : Int), j < k → (goX C R N b lim P q).2.1[j]? = some y → y / 343 ≠ q) ∧ (∀ z, (goX C R N b lim P q).2.2.1 z < ((goX C R N b lim P q).2.1.length : Int)) ∧ (((goX C R N b lim P q).1 = -1 ∧ ((goX C R N b lim P q).2.1.length ≤ k ∨ k = 0 + 16807)) ∨ ((goX C R N b lim P q).2.1[k]? = some (goX C R N b lim P q).1 ∧ (goX C R N b lim P q).1 / 343 = q)) := by
  refine BI_Q (fun f d h0 h3 hf hn => ?_) q 16807 0 (bs0 P) (BI_0 ⟨LZ_gd hF hb hP, hP, hPl⟩) (fun j y h => absurd h (by omega)) (fun z => by show (if z = P then (0 : Int) else -1) < 1; split <;> omega)
  have h1 := astZ_gd hF hf.1 h0 h3 hn
  have h2 := LZ_b hF hb (astZ C R N (LZ C R N b) lim f d)
  obtain ⟨e1, e2, e3, e4⟩ := ast_ne hn
  rw [e1] at h1 h2 ⊢
  exact ⟨h1, by omega, e4⟩
theorem go_all (hF : FlOK C R np N gn) (hb : GdZ C R N (b * 343)) {P q : Int} (hP : 0 ≤ LZ C R N b P) (hPl : LZ C R N b P ≤ lim) (hX : (goX C R N b lim P q).1 ≠ -1) :
    (0 ≤ (goX C R N b lim P q).2.2.1 (goX C R N b lim P q).1 ∧ (goX C R N b lim P q).2.2.1 (goX C R N b lim P q).1 < 20000) ∧ GSZ C R N b lim (goX C R N b lim P q).1 ∧ (goX C R N b lim P q).1 / 343 = q ∧ wkZ C R N ((goX C R N b lim P q).2.2.1 (goX C R N b lim P q).1).toNat P (goX C R N b lim P q).1 := by
  obtain ⟨k, k1, k2, k3, k4⟩ := go_q hF hb hP hPl q
  generalize goX C R N b lim P q = X at *
  rcases k4 with k4 | ⟨k4, k5⟩
  · exact absurd k4.1 hX
  · have hm := List.mem_of_getElem? k4
    have hD : 0 ≤ X.2.2.1 X.1 := by
      rcases k1.2.2.1 X.1 with g | g
      · exact absurd hm g.2
      · exact g.1
    have hg := k1.2.2.2.1 _ hm
    have hln := gd_len (C := C) (R := R) (N := N) k1.1 (fun z hz => (k1.2.2.2.1 z hz).1)
    have h3 := k3 X.1
    exact ⟨⟨hD, by omega⟩, hg, k5, bi_wk k1 (fun z hz => hz.1.1) _ _ hm (by omega)⟩
/-- how a way's steps and the lengths at its ends go together -/
theorem go_len (hF : FlOK C R np N gn) (hb : GdZ C R N (b * 343)) {P z : Int} {k : Nat} (hP : 0 ≤ LZ C R N b P) (h : wkZ C R N k P z) : LZ C R N b z ≤ LZ C R N b P + k ∧ ((k : Int) + LZ C R N b P + LZ C R N b z) % 2 = 0 := by
  have h1 := LZ_wk hF hb k P z hP h
  have p0 := wk_par hF _ _ _ (LZ_gd hF hb hP).pl h
  have p1 := LZ_par hF hb hP
  have p2 := LZ_par hF hb h1.1
  exact ⟨h1.2, by omega⟩
end P22M
section LSM
variable {L : Int → Int} {lim q : Int}
theorem ls_le (q : Int) : ∀ (n w : Nat), w < n → L (q * 343 + w) ≠ -1 → lsN L q n ≠ -1 ∧ lsN L q n ≤ L (q * 343 + w) := by
  intro n
  induction n with
  | zero => intro w h; omega
  | succ n ih =>
    intro w h hw
    have hs : lsN L q (n + 1) = if L (q * 343 + n) ≠ -1 ∧ (lsN L q n = -1 ∨ L (q * 343 + n) < lsN L q n) then L (q * 343 + n) else lsN L q n := rfl
    rcases Nat.lt_or_eq_of_le (Nat.le_of_lt_succ h) with g | g
    · have h1 := ih w g hw
      rw [hs]
      split <;> omega
    · subst g
      rw [hs]
      split <;> omega
theorem ls_at (q : Int) : ∀ n : Nat, lsN L q n = -1 ∨ ∃ w : Nat, w < n ∧ L (q * 343 + w) = lsN L q n ∧ L (q * 343 + w) ≠ -1 := by
  intro n
  induction n with
  | zero => exact Or.inl rfl
  | succ n ih =>
    have hs : lsN L q (n + 1) = if L (q * 343 + n) ≠ -1 ∧ (lsN L q n = -1 ∨ L (q * 343 + n) < lsN L q n) then L (q * 343 + n) else lsN L q n := rfl
    rw [hs]
    split
    · rename_i hc
      exact Or.inr ⟨n, Nat.lt_succ_self n, rfl, hc.1⟩
    · exact ih.imp id (fun ⟨w, h1, h2⟩ => ⟨w, Nat.lt_succ_of_lt h1, h2⟩)
theorem wd_pos : ∀ n : Nat, (0 < wdN L lim q n ∧ ∃ w : Nat, w < n ∧ L (q * 343 + w) ≠ -1 ∧ L (q * 343 + w) ≤ lim) ∨ (wdN L lim q n = 0 ∧ ∀ w : Nat, w < n → ¬ (L (q * 343 + w) ≠ -1 ∧ L (q * 343 + w) ≤ lim)) := by
  intro n
  induction n with
  | zero => exact Or.inr ⟨rfl, fun w h => absurd h (by omega)⟩
  | succ n ih =>
    have hs : wdN L lim q (n + 1) = wdN L lim q n + if L (q * 343 + n) ≠ -1 ∧ L (q * 343 + n) ≤ lim then 1 else 0 := rfl
    rw [hs]
    by_cases hc : L (q * 343 + n) ≠ -1 ∧ L (q * 343 + n) ≤ lim
    · rw [if_pos hc]
      have := (wdN_b L lim q n).1
      exact Or.inl ⟨by omega, n, Nat.lt_succ_self n, hc⟩
    · rw [if_neg hc]
      rcases ih with ⟨h1, w, h2, h3⟩ | ⟨h1, h2⟩
      · exact Or.inl ⟨by omega, w, Nat.lt_succ_of_lt h2, h3⟩
      · refine Or.inr ⟨by omega, fun w hw => ?_⟩
        rcases Nat.lt_or_eq_of_le (Nat.le_of_lt_succ hw) with g | g
        · exact h2 w g
        · rw [g]; exact hc
theorem wd_ls (hb : ∀ z, -1 ≤ L z) : (0 < wdN L lim q 343 ∧ 0 ≤ lsZ L q ∧ lsZ L q ≤ lim) ∨ (wdN L lim q 343 = 0 ∧ ¬ (0 ≤ lsZ L q ∧ lsZ L q ≤ lim)) := by
  rcases wd_pos (L := L) (lim := lim) (q := q) 343 with ⟨h1, w, h2, h3⟩ | ⟨h1, h2⟩
  · have h4 := ls_le (L := L) q 343 w h2 h3.1
    rcases ls_at (L := L) q 343 with h5 | ⟨w2, -, h6, h7⟩
    · exact absurd h5 h4.1
    · have := hb (q * 343 + w2)
      unfold lsZ
      exact Or.inl ⟨h1, by omega, by omega⟩
  · refine Or.inr ⟨h1, fun h => ?_⟩
    rcases ls_at (L := L) q 343 with h5 | ⟨w2, h5, h6, h7⟩
    · unfold lsZ at h; omega
    · unfold lsZ at h
      exact h2 w2 h5 ⟨h7, by omega⟩
end LSM
end
section
/-! goals: a square's least length, and the crawler's way there from the base -/
section P22G
variable {C R np : Int} {N : Int → Int} {gn : Nat → Int} {b lim : Int}
theorem LZ_nn (hF : FlOK C R np N gn) (hb : GdZ C R N (b * 343)) : ∀ z, -1 ≤ LZ C R N b z := fun z => LZ_b hF hb z
theorem ls_z (hF : FlOK C R np N gn) (hb : GdZ C R N (b * 343)) (q : Int) : lsZ (LZ C R N b) q = -1 ∨ (0 ≤ lsZ (LZ C R N b) q ∧ ∃ z, 0 ≤ LZ C R N b z ∧ LZ C R N b z = lsZ (LZ C R N b) q ∧ z / 343 = q) := by
  rcases ls_at (L := LZ C R N b) q 343 with h | ⟨w, h1, h2, h3⟩
  · exact Or.inl h
  · have h4 := LZ_b hF hb (q * 343 + w)
    have h5 : 0 ≤ LZ C R N b (q * 343 + w) := by omega
    have h6 : (q * 343 + (w : Int)) / 343 = q := by omega
    exact Or.inr ⟨by show 0 ≤ lsN _ q 343; omega, _, h5, h2, h6⟩
theorem ls_mem (hF : FlOK C R np N gn) (hb : GdZ C R N (b * 343)) {z : Int} (hz : 0 ≤ LZ C R N b z) : 0 ≤ lsZ (LZ C R N b) (z / 343) ∧ lsZ (LZ C R N b) (z / 343) ≤ LZ C R N b z := by
  have he : z / 343 * 343 + ((z % 343).toNat : Int) = z := by omega
  have h := ls_le (L := LZ C R N b) (z / 343) 343 (z % 343).toNat (by omega) (by rw [he]; omega)
  rw [he] at h
  have h2 : lsZ (LZ C R N b) (z / 343) ≠ -1 ∧ lsZ (LZ C R N b) (z / 343) ≤ LZ C R N b z := h
  rcases ls_z hF hb (z / 343) with g | ⟨g, -⟩
  · exact absurd g h2.1
  · exact ⟨g, h2.2⟩
theorem go_base (hF : FlOK C R np N gn) (hb : GdZ C R N (b * 343)) (hlim : 0 ≤ lim) {q : Int} (h0 : 0 ≤ lsZ (LZ C R N b) q) (h1 : lsZ (LZ C R N b) q ≤ lim) :
    (goX C R N b lim (b * 343) q).1 ≠ -1 ∧ (goX C R N b lim (b * 343) q).2.2.1 (goX C R N b lim (b * 343) q).1 = lsZ (LZ C R N b) q ∧ LZ C R N b (goX C R N b lim (b * 343) q).1 = lsZ (LZ C R N b) q := by
  have hz0 := LZ_0 hF hb
  obtain ⟨k, k1, k2, k3, k4⟩ := go_q hF hb (P := b * 343) (lim := lim) (by omega) (by omega) q
  have hall := go_all hF hb (P := b * 343) (lim := lim) (q := q) (by omega) (by omega)
  generalize goX C R N b lim (b * 343) q = X at *
  obtain ⟨i1, i2, i3, i4, i5, i6, i7, i8, i9⟩ := id k1
  have hreach : ∀ (n : Nat) (y : Int), LZ C R N b y = (n : Int) → (n : Int) ≤ lim → (y ∈ X.2.1 ∧ X.2.2.1 y ≤ n) ∨ ∃ f, X.2.1[k]? = some f ∧ X.2.2.1 f ≤ n := by
    intro n
    induction n with
    | zero =>
      intro y hy _
      have hyb := LZ_z hF hb hy
      rw [hyb]
      exact Or.inl ⟨List.mem_of_getElem? i2, by rw [i5.1]; exact Int.le_refl _⟩
    | succ n ih =>
      intro y hy hl
      obtain ⟨u, e, e0, e3, he, hu, huy⟩ := LZ_pa hF hb (z := y) (by omega) (fun h => by rw [h] at hy; omega)
      have hy0 := (LZ_gd hF hb (z := y) (by omega)).1
      rcases ih u (by omega) (by omega) with ⟨g1, g2⟩ | ⟨f, g1, g2⟩
      · obtain ⟨j, hj⟩ := List.getElem?_of_mem g1
        rcases Nat.lt_or_ge j k with hk | hk
        · have ha : astZ C R N (LZ C R N b) lim u e = y := by unfold astZ; rw [he, if_pos (by omega)]
          have h9 := i9 j u hj e e0 e3 (Or.inl hk) (by rw [ha]; omega)
          rw [ha] at h9
          exact Or.inl ⟨h9.1, by omega⟩
        · have hjl := (List.getElem?_eq_some_iff.mp hj).1
          have hkl : k < X.2.1.length := by omega
          have hf := bsAt_some (S := X.2) hkl
          have := i7 k j hk _ _ hf hj
          exact Or.inr ⟨_, hf, by omega⟩
      · exact Or.inr ⟨f, g1, by omega⟩
  rcases ls_z hF hb q with g | ⟨-, z, z1, z2, z3⟩
  · omega
  · have hf : ∃ f, X.2.1[k]? = some f ∧ X.2.2.1 f ≤ lsZ (LZ C R N b) q := by
      rcases hreach (LZ C R N b z).toNat z (by omega) (by omega) with ⟨g1, g2⟩ | ⟨f, g1, g2⟩
      · obtain ⟨j, hj⟩ := List.getElem?_of_mem g1
        rcases Nat.lt_or_ge j k with hk | hk
        · exact absurd z3 (k2 j z hk hj)
        · have hjl := (List.getElem?_eq_some_iff.mp hj).1
          have hkl : k < X.2.1.length := by omega
          have hf := bsAt_some (S := X.2) hkl
          have := i7 k j hk _ _ hf hj
          exact ⟨_, hf, by omega⟩
      · exact ⟨f, g1, by omega⟩
    obtain ⟨f, f1, f2⟩ := hf
    have hkl := (List.getElem?_eq_some_iff.mp f1).1
    have hln := gd_len (C := C) (R := R) (N := N) i1 (fun z hz => (i4 z hz).1)
    rcases k4 with ⟨k4, k5⟩ | ⟨k4, k5⟩
    · omega
    · rw [k4] at f1
      have f1 := Option.some.inj f1
      rw [← f1] at f2
      have hg := i4 _ (List.mem_of_getElem? k4)
      have hne : X.1 ≠ -1 := by have := hg.1.1; omega
      obtain ⟨⟨a1, -⟩, ⟨a2, a3, a4⟩, a5, a6⟩ := hall hne
      have h7 := (go_len hF hb (P := b * 343) (by omega) a6).1
      have h8 := ls_mem hF hb a3
      rw [a5] at h8
      refine ⟨hne, ?_, ?_⟩ <;> omega
theorem goal_at (hF : FlOK C R np N gn) (hb : GdZ C R N (b * 343)) {a c : Int} (hs : 0 ≤ a ∧ a < C ∧ 0 ≤ c ∧ c < R) : -1 ≤ lsZ (LZ C R N b) (a * 7 + c) ∧ (0 ≤ lsZ (LZ C R N b) (a * 7 + c) → absZ (a - b / 7) + absZ (c - b % 7) ≤ lsZ (LZ C R N b) (a * 7 + c) ∧ (lsZ (LZ C R N b) (a * 7 + c) - (absZ (a - b / 7) + absZ (c - b % 7))) % 2 = 0) ∧ (absZ (a - b / 7) + absZ (c - b % 7) = 0 → lsZ (LZ C R N b) (a * 7 + c) = 0) := by
  obtain ⟨hC1, hC2, hR1, hR2, -, -, -, -⟩ := id hF
  obtain ⟨hb0, hb1, hb2, hb3, -, -⟩ := id hb
  have hz0 := LZ_0 hF hb
  have e1 : b * 343 / 343 = b := by omega
  rw [e1] at hb2 hb3
  refine ⟨?_, ?_, ?_⟩
  · rcases ls_z hF hb (a * 7 + c) with g | ⟨g, -⟩ <;> omega
  · intro h0
    rcases ls_z hF hb (a * 7 + c) with g | ⟨-, z, z1, z2, z3⟩
    · omega
    · have h1 := LZ_far hF hb z1
      have h2 := LZ_par hF hb z1
      unfold apZ at h1
      unfold sqs at h2
      rw [e1, z3, show (a * 7 + c) / 7 = a by omega, show (a * 7 + c) % 7 = c by omega, z2] at h1 h2
      generalize lsZ (LZ C R N b) (a * 7 + c) = x at *
      generalize b / 7 = u at *
      generalize b % 7 = v at *
      clear z2 z3 hz0 e1 hb0 hb1 hb2 hb3
      unfold absZ at h1 ⊢
      (repeat' split at h1) <;> (repeat' split) <;> omega
  · intro hz
    have hab : a * 7 + c = b := by
      unfold absZ at hz
      (repeat' split at hz) <;> omega
    have h := ls_mem hF hb (z := b * 343) (by omega)
    rw [e1, hz0] at h
    rw [hab]
    omega
/-- nothing is reached outside the floor -/
theorem ls_out (hF : FlOK C R np N gn) (hb : GdZ C R N (b * 343)) {q : Int} (hq : C ≤ q / 7 ∨ R ≤ q % 7) : lsZ (LZ C R N b) q = -1 := by
  rcases ls_z hF hb q with g | ⟨-, z, z1, z2, z3⟩
  · exact g
  · have hg := LZ_gd hF hb z1
    have h1 := hg.2.2.1
    have h2 := hg.2.2.2.1
    rw [z3] at h1 h2
    omega
end P22G
/-! sums -/
def sumZ (f : Nat → Int) : Nat → Int
  | 0 => 0
  | n + 1 => sumZ f n + f n
theorem sum_ext {f g : Nat → Int} : ∀ n : Nat, (∀ k, k < n → f k = g k) → sumZ f n = sumZ g n := by
  intro n
  induction n with
  | zero => intro _; rfl
  | succ n ih =>
    intro h
    show sumZ f n + f n = sumZ g n + g n
    rw [ih (fun k hk => h k (Nat.lt_succ_of_lt hk)), h n (Nat.lt_succ_self n)]
theorem sum_add (f : Nat → Int) (m : Nat) : ∀ n : Nat, sumZ f (m + n) = sumZ f m + sumZ (fun k => f (m + k)) n := by
  intro n
  induction n with
  | zero => show sumZ f m = sumZ f m + 0; omega
  | succ n ih =>
    show sumZ f (m + n) + f (m + n) = sumZ f m + (sumZ (fun k => f (m + k)) n + f (m + n))
    rw [ih]
    omega
theorem sum_mul (f : Nat → Int) (a : Nat) : ∀ n : Nat, sumZ f (n * a) = sumZ (fun r => sumZ (fun c => f (r * a + c)) a) n := by
  intro n
  induction n with
  | zero => rw [Nat.zero_mul]; rfl
  | succ n ih =>
    rw [Nat.succ_mul, sum_add, ih]
    rfl
theorem sum_plus (f g : Nat → Int) : ∀ n : Nat, sumZ (fun k => f k + g k) n = sumZ f n + sumZ g n := by
  intro n
  induction n with
  | zero => rfl
  | succ n ih =>
    show sumZ (fun k => f k + g k) n + (f n + g n) = sumZ f n + f n + (sumZ g n + g n)
    rw [ih]
    omega
theorem sum_0 : ∀ n : Nat, sumZ (fun _ => 0) n = 0 := by
  intro n
  induction n with
  | zero => rfl
  | succ n ih => show sumZ (fun _ => 0) n + 0 = 0; rw [ih]; rfl
theorem sum_swap (f : Nat → Nat → Int) (a : Nat) : ∀ n : Nat, sumZ (fun r => sumZ (fun c => f r c) a) n = sumZ (fun c => sumZ (fun r => f r c) n) a := by
  intro n
  induction n with
  | zero => exact (sum_0 a).symm
  | succ n ih =>
    show sumZ (fun r => sumZ (fun c => f r c) a) n + sumZ (fun c => f n c) a = sumZ (fun c => sumZ (fun r => f r c) n + f n c) a
    rw [ih, sum_plus]
theorem sum_pad {f : Nat → Int} {m : Nat} : ∀ n : Nat, m ≤ n → (∀ k, m ≤ k → k < n → f k = 0) → sumZ f n = sumZ f m := by
  intro n
  induction n with
  | zero => intro h _; rw [Nat.le_zero.mp h]
  | succ n ih =>
    intro h hf
    rcases Nat.lt_or_eq_of_le h with g | g
    · show sumZ f n + f n = sumZ f m
      rw [ih (by omega) (fun k h1 h2 => hf k h1 (by omega)), hf n (by omega) (by omega)]
      omega
    · rw [g]
/-- the squares of the floor row by row, and all squares in their own order -/
theorem sum_sq (F : Nat → Int) {c r : Nat} (hc : c ≤ 7) (hr : r ≤ 7) (h0 : ∀ q, q < 49 → c ≤ q / 7 ∨ r ≤ q % 7 → F q = 0) (hc0 : 0 < c) : sumZ (fun k => F (k % c * 7 + k / c)) (r * c) = sumZ F 49 := by
  rw [sum_mul]
  rw [show sumZ F 49 = sumZ F (7 * 7) from rfl, sum_mul]
  have h1 : sumZ (fun i => sumZ (fun j => F (i * 7 + j)) 7) 7 = sumZ (fun i => sumZ (fun j => F (i * 7 + j)) r) 7 := sum_ext 7 (fun i hi => sum_pad 7 hr (fun j hj hj7 => h0 _ (by omega) (by omega)))
  have h2 : sumZ (fun i => sumZ (fun j => F (i * 7 + j)) r) 7 = sumZ (fun i => sumZ (fun j => F (i * 7 + j)) r) c := sum_pad 7 hc (fun i hi hi7 => by
    rw [sum_ext (g := fun _ => 0) r (fun j hj => h0 _ (by omega) (by omega))]
    exact sum_0 r)
  rw [h1, h2, sum_swap (fun i j => F (i * 7 + j))]
  exact sum_ext r (fun y hy => sum_ext c (fun x hx => by
    show F ((y * c + x) % c * 7 + (y * c + x) / c) = F (x * 7 + y)
    rw [show (y * c + x) % c = x by rw [Nat.mul_comm, Nat.mul_add_mod]; exact Nat.mod_eq_of_lt hx, show (y * c + x) / c = y by rw [Nat.mul_comm, Nat.mul_add_div hc0, Nat.div_eq_of_lt hx]; rfl]))
def inQ (L : Int → Int) (lim q : Int) : Int := if lsZ L q ≠ -1 ∧ lsZ L q ≤ lim then 1 else 0
theorem sqN_sum (L : Int → Int) (lim : Int) : ∀ n : Nat, sqN L lim n = sumZ (fun k => inQ L lim (k : Int)) n := by
  intro n
  induction n with
  | zero => rfl
  | succ n ih =>
    show sqN L lim n + (if lsZ L n ≠ -1 ∧ lsZ L n ≤ lim then 1 else 0) = sumZ (fun k => inQ L lim (k : Int)) n + inQ L lim (n : Int)
    rw [ih]
    rfl
/-- how many of the floor's first n squares, row by row, are within the limit -/
def sqL (L : Int → Int) (lim C : Int) : Nat → Int := sumZ (fun k => inQ L lim ((k : Int) % C * 7 + (k : Int) / C))
theorem sqL_b (L : Int → Int) (lim C : Int) : ∀ n : Nat, 0 ≤ sqL L lim C n ∧ sqL L lim C n ≤ n := by
  intro n
  induction n with
  | zero => exact ⟨Int.le_refl _, Int.le_refl _⟩
  | succ n ih =>
    have hs : sqL L lim C (n + 1) = sqL L lim C n + inQ L lim ((n : Int) % C * 7 + (n : Int) / C) := rfl
    have hi : 0 ≤ inQ L lim ((n : Int) % C * 7 + (n : Int) / C) ∧ inQ L lim ((n : Int) % C * 7 + (n : Int) / C) ≤ 1 := by unfold inQ; split <;> omega
    rw [hs]
    omega
theorem sqL_sqN {C R np : Int} {N : Int → Int} {gn : Nat → Int} {b lim : Int} (hF : FlOK C R np N gn) (hb : GdZ C R N (b * 343)) {n : Nat} (hn : (n : Int) = C * R) : sqL (LZ C R N b) lim C n = sqN (LZ C R N b) lim 49 := by
  obtain ⟨hC1, hC2, hR1, hR2, -, -, -, -⟩ := id hF
  obtain ⟨c, rfl⟩ : ∃ c : Nat, C = (c : Int) := ⟨C.toNat, by omega⟩
  obtain ⟨r, rfl⟩ : ∃ r : Nat, R = (r : Int) := ⟨R.toNat, by omega⟩
  have hn2 : n = r * c := by
    have : ((c * r : Nat) : Int) = (c : Int) * (r : Int) := Int.natCast_mul c r
    rw [← this] at hn
    rw [Nat.mul_comm r c]
    exact Int.ofNat.inj hn
  rw [sqN_sum, hn2, ← sum_sq (fun k => inQ (LZ c r N b) lim (k : Int)) (c := c) (r := r) (by omega) (by omega) (fun q hq ho => ?_) (by omega)]
  · exact sum_ext _ (fun k hk => by
      show inQ _ lim ((k : Int) % (c : Int) * 7 + (k : Int) / (c : Int)) = inQ _ lim ((k % c * 7 + k / c : Nat) : Int)
      rw [show ((k % c * 7 + k / c : Nat) : Int) = ((k % c : Nat) : Int) * 7 + ((k / c : Nat) : Int) by omega]
      rfl)
  · show inQ _ lim (q : Int) = 0
    unfold inQ
    rw [ls_out hF hb (q := (q : Int)) (by omega), if_neg (by omega)]
end
