/-! the law's own instructions; its script; static calls -/
def shZ (x n : Int) : Int := (iI x >>> (iI n &&& 31)).toInt
theorem shZ_r (x n : Int) : -2147483648 ≤ shZ x n ∧ shZ x n < 2147483648 := iI_InR _
def anZ (x y : Int) : Int := (iI x &&& iI y).toInt
theorem anZ_b (x : Int) : 0 ≤ anZ x 2147483647 ∧ anZ x 2147483647 < 2147483648 := by
  refine ⟨?_, (iI_InR _).2⟩
  have h : (iI x &&& iI 2147483647).toBitVec.msb = false := by rw [Int32.toBitVec_and, BitVec.msb_and, show (iI 2147483647).toBitVec.msb = false by decide +kernel, Bool.and_false]
  show 0 ≤ (iI x &&& iI 2147483647).toBitVec.toInt
  rw [BitVec.toInt_eq_msb_cond, h]
  simp
def lowZ (v n : Int) : Int := anZ v 2147483647 % n
theorem lowZ_b (v : Int) {n : Int} (h : 0 < n) : 0 ≤ lowZ v n ∧ lowZ v n < n := ⟨Int.emod_nonneg _ (by omega), Int.emod_lt_of_pos _ h⟩
def sX (xs : Nat → Int32) (k : Nat) : Int := (xs k).toInt
theorem sX_r (xs : Nat → Int32) (k : Nat) : -2147483648 ≤ sX xs k ∧ sX xs k < 2147483648 := iI_InR _
section ZR
variable {p : Program} {l : Launch} {e : Env} {R : Room} {s : State} {m : MethodId} {args : Array Value} {below : List Frame} {meth : Method} {c : Code} {H H0 : Heap} {locs : List Loc} {cells slots : Nat} {Q : State → Prop}
variable {cc : ByteArray} {pc : Nat} {ls : Array Slot} {rest st : List Value} {A : Nat → Prop} {D : va_G} {cI cJ : ClassId}
theorem zv_sld (hexec : p.tables.exec = Jvm.exec) (hb : c.code = cc) {b L : Nat} {xs : Nat → Int32} (hX : va_X b L xs s H0) (hbl : b < H0.size) (hbA : ¬ A b) (hS : va_S A H0 H locs) {i : Int} (h0 : 0 ≤ i) (h1 : i < (L : Int)) (hL : L < 2147483648) (hdg : decode cc pc = .ok (.iaload, 1))
    (kk : W p l e R s m args below meth c H locs cells slots Q (F0 m (pc + 1) ls (.int (iI (sX xs i.toNat)) :: rest))) : W p l e R s m args below meth c H locs cells slots Q (F0 m pc ls (.int (iI i) :: .ref b :: rest)) :=
  va_sld hexec hb hX hbl hbA hS (iI_in h0 h1 hL) hdg (by rw [iI_clamp h0 (by omega), iI_of (xs i.toNat)]; exact kk)
theorem zv_slen (hexec : p.tables.exec = Jvm.exec) (hb : c.code = cc) {b L : Nat} {xs : Nat → Int32} (hX : va_X b L xs s H0) (hbl : b < H0.size) (hbA : ¬ A b) (hS : va_S A H0 H locs) (hdg : decode cc pc = .ok (.arraylength, 1))
    (kk : W p l e R s m args below meth c H locs cells slots Q (F0 m (pc + 1) ls (.int (iI (L : Int)) :: rest))) : W p l e R s m args below meth c H locs cells slots Q (F0 m pc ls (.ref b :: rest)) :=
  va_slen hexec hb hX hbl hbA hS hdg (by rw [show Int32.ofNat L = iI (L : Int) from (Int32.ofInt_eq_ofNat).symm]; exact kk)
theorem zv_ldc (hexec : p.tables.exec = Jvm.exec) (hb : c.code = cc) {own : String} {index : Nat} {v : Int32} {n : Int} (hown : s.vm.findClass own = some m.cls) (hconst : (Jvm.Cond.constant own index v).before args s = true) (hv : v = iI n) (hdg : decode cc pc = .ok (.ldc index, 2))
    (k : W p l e R s m args below meth c H locs cells slots Q (F0 m (pc + 2) ls (.int (iI n) :: rest))) : W p l e R s m args below meth c H locs cells slots Q (F0 m pc ls rest) :=
  lv_ldc hexec hb hown hconst hdg (by rw [hv]; exact k)
theorem zv_ishr (hexec : p.tables.exec = Jvm.exec) (hb : c.code = cc) {x y : Int} (hdg : decode cc pc = .ok (.ishr, 1))
    (k : W p l e R s m args below meth c H locs cells slots Q (F0 m (pc + 1) ls (.int (iI (shZ x y)) :: rest))) : W p l e R s m args below meth c H locs cells slots Q (F0 m pc ls (.int (iI y) :: .int (iI x) :: rest)) :=
  lv_ishr hexec hb hdg (by rw [iI_of (iI x >>> (iI y &&& 31))]; exact k)
theorem zv_iand (hexec : p.tables.exec = Jvm.exec) (hb : c.code = cc) {x y : Int} (hdg : decode cc pc = .ok (.iand, 1))
    (k : W p l e R s m args below meth c H locs cells slots Q (F0 m (pc + 1) ls (.int (iI (anZ x y)) :: rest))) : W p l e R s m args below meth c H locs cells slots Q (F0 m pc ls (.int (iI y) :: .int (iI x) :: rest)) :=
  lv_iand hexec hb hdg (by rw [iI_of (iI x &&& iI y)]; exact k)
theorem zv_ineg (hexec : p.tables.exec = Jvm.exec) (hb : c.code = cc) {x : Int} (hdg : decode cc pc = .ok (.ineg, 1))
    (k : W p l e R s m args below meth c H locs cells slots Q (F0 m (pc + 1) ls (.int (iI (0 - x)) :: rest))) : W p l e R s m args below meth c H locs cells slots Q (F0 m pc ls (.int (iI x) :: rest)) :=
  lv_ineg hexec hb hdg (by rw [iI_neg, show -x = 0 - x by omega]; exact k)
/-- a static call of a method without handlers, out of which something may come thrown -/
theorem zx_Sn {y : MethodName} {bytes : ByteArray} {maxL index k n mc ms : Nat} {ret : Option FieldType} {own : String} {As : List Value} {ws wc wr : va_W} {S : Type} {post : Int → S → Prop} {Wf : S → va_W} {pX : String → S → Prop} (hexec : p.tables.exec = Jvm.exec) (hb : c.code = cc) (hml : c.maxLocals = ls.size) (hts : ∀ w ∈ GW, w.before args s = true) (hown : s.vm.findClass own = some m.cls) (hK : KK D cI cJ s) (hP : va_P D vwCl ws H) (hD : va_D A ws) (hS : va_S A s.heap H locs) (hA : ∀ q : Nat, s.heap.size ≤ q → A q) (hE : EX A s s.heap)
    (hM : VMi l y (.code y bytes maxL ret) k mc ms As D cI cJ wc H.size post Wf pX) (hG : GoodIn GW (va_wsS own index y (.code y bytes maxL ret :: GW))) (hd : y.cls ≠ "java/lang/invoke/MethodHandle" ∧ y.cls ≠ "java/lang/invoke/VarHandle" ∧ (parseMethodDescriptor y.desc).map (fun d => d.parameters.length) = some n) (hn : As.length = n)
    (hR : k + 1 ≤ R.frames ∧ 8 + (maxL + 11) + 64 * k ≤ R.locals) (hf : cells + mc ≤ R.cells ∧ slots + ms ≤ R.slots) (pl rl : List Nat) (hC : pl.map (fun i => ws[i]?) = wc.map some) (hRl : rl.map (fun i => ws[i]?) = wr.map some) (hn1 : va_nd pl = true) (hn2 : va_nd rl = true) (hdis : ∀ i ∈ rl, i ∉ pl) (hst : st = As.reverse ++ rest) (hW : (rest.map fun v => v.category).sum ≤ 8) (hdg : decode cc pc = .ok (.invokestatic index, 3))
    (kx : ∀ (E : String) (ce : Cell) (q9 : Addr) (u : S) (H1 : Heap) (locs1 : List Loc), pX E u → va_P D vwCl (wr ++ Wf u) H1 → va_D A (wr ++ Wf u) → va_S A s.heap H1 locs1 → H1[q9]? = some ce → ce.vm = .none → s.vm.findClass E = some ce.cls → vx_W p l e R s m args below meth c H1 locs1 (cells + mc) (slots + ms) Q (F0 m pc ls rest) q9)
    (kk : ∀ (r : Int) (u : S) (H1 : Heap) (locs1 : List Loc), post r u → va_P D vwCl (wr ++ Wf u) H1 → va_D A (wr ++ Wf u) → va_S A s.heap H1 locs1 → W p l e R s m args below meth c H1 locs1 (cells + mc) (slots + ms) Q (F0 m (pc + 3) ls (.int (iI r) :: rest))) : W p l e R s m args below meth c H locs cells slots Q (F0 m pc ls st) :=
  VM_goi hP hD hS hA pl rl hC hRl hn2 hdis (vx_runS (As := As) (rest := rest) (nL := ls.size) ⟨hexec, hb, hml, hown, hts⟩ hM (va_cwS n hts hG rfl rfl rfl hd hR) ⟨VPre_blind, VM_pre hK hP hD hS hA hE pl hC hn1 (fm_of hC)⟩ rfl hn rfl hst (lv_room hW) hdg hf) kx kk
/-- .. out of which nothing comes thrown -/
theorem zx_S0 {y : MethodName} {bytes : ByteArray} {maxL index k n mc ms : Nat} {ret : Option FieldType} {own : String} {As : List Value} {ws wc wr : va_W} {S : Type} {post : Int → S → Prop} {Wf : S → va_W} (hexec : p.tables.exec = Jvm.exec) (hb : c.code = cc) (hml : c.maxLocals = ls.size) (hts : ∀ w ∈ GW, w.before args s = true) (hown : s.vm.findClass own = some m.cls) (hK : KK D cI cJ s) (hP : va_P D vwCl ws H) (hD : va_D A ws) (hS : va_S A s.heap H locs) (hA : ∀ q : Nat, s.heap.size ≤ q → A q) (hE : EX A s s.heap)
    (hM : VMi l y (.code y bytes maxL ret) k mc ms As D cI cJ wc H.size post Wf (fun _ _ => False)) (hG : GoodIn GW (va_wsS own index y (.code y bytes maxL ret :: GW))) (hd : y.cls ≠ "java/lang/invoke/MethodHandle" ∧ y.cls ≠ "java/lang/invoke/VarHandle" ∧ (parseMethodDescriptor y.desc).map (fun d => d.parameters.length) = some n) (hn : As.length = n)
    (hR : k + 1 ≤ R.frames ∧ 8 + (maxL + 11) + 64 * k ≤ R.locals) (hf : cells + mc ≤ R.cells ∧ slots + ms ≤ R.slots) (pl rl : List Nat) (hC : pl.map (fun i => ws[i]?) = wc.map some) (hRl : rl.map (fun i => ws[i]?) = wr.map some) (hn1 : va_nd pl = true) (hn2 : va_nd rl = true) (hdis : ∀ i ∈ rl, i ∉ pl) (hst : st = As.reverse ++ rest) (hW : (rest.map fun v => v.category).sum ≤ 8) (hdg : decode cc pc = .ok (.invokestatic index, 3))
    (kk : ∀ (r : Int) (u : S) (H1 : Heap) (locs1 : List Loc), post r u → va_P D vwCl (wr ++ Wf u) H1 → va_D A (wr ++ Wf u) → va_S A s.heap H1 locs1 → W p l e R s m args below meth c H1 locs1 (cells + mc) (slots + ms) Q (F0 m (pc + 3) ls (.int (iI r) :: rest))) : W p l e R s m args below meth c H locs cells slots Q (F0 m pc ls st) :=
  zx_Sn hexec hb hml hts hown hK hP hD hS hA hE hM hG hd hn hR hf pl rl hC hRl hn1 hn2 hdis hst hW hdg (fun _ _ _ _ _ _ h => h.elim) kk
end ZR
/-! what a call of the law does: its answer, how many pillars, base, place, steps, the pillars -/
def mnZ (a b : Int) : Int := if a ≤ b then a else b
def dsZ (C R lim np bs P sm : Int) (N : Int → Int) (how a b : Int) : Int × Int × Int × Int × Int × (Int → Int) :=
  if how = 0 then (if (0 ≤ a ∧ a ≤ 3) ∧ astZ C R N (LZ C R N bs) lim P a ≠ -1 then (LZ C R N bs (astZ C R N (LZ C R N bs) lim P a), np, bs, astZ C R N (LZ C R N bs) lim P a, sm + 1, N) else (-99999, np, bs, P, sm, N))
  else if how = 1 then (if 1 ≤ a ∧ a ≤ 60 then (mnZ a (LZ C R N bs P), np, bs, alZ C R N (LZ C R N bs) P (mnZ a (LZ C R N bs P)).toNat, sm + mnZ a (LZ C R N bs P), N) else (-99999, np, bs, P, sm, N))
  else if how = 2 then (if (0 ≤ a ∧ a < C ∧ 0 ≤ b ∧ b < R) ∧ ¬ (np = 3 ∨ P ≠ bs * 343 ∨ a * 7 + b = bs ∨ N (a * 7 + b) ≠ -1) then (np, np + 1, bs, P, sm, NZ N (a * 7 + b) np) else (-99999, np, bs, P, sm, N))
  else if how = 3 then (if (0 ≤ a ∧ a < C ∧ 0 ≤ b ∧ b < R) ∧ N (a * 7 + b) = -1 then (0, np, a * 7 + b, (a * 7 + b) * 343, 0, N) else (-99999, np, bs, P, sm, N))
  else (if (0 ≤ a ∧ a < C ∧ 0 ≤ b ∧ b < R) ∧ (goX C R N bs lim P (a * 7 + b)).1 ≠ -1 then ((goX C R N bs lim P (a * 7 + b)).2.2.1 (goX C R N bs lim P (a * 7 + b)).1, np, bs, (goX C R N bs lim P (a * 7 + b)).1, sm + (goX C R N bs lim P (a * 7 + b)).2.2.1 (goX C R N bs lim P (a * 7 + b)).1, N) else (-99999, np, bs, P, sm, N))
section DSZ
variable {C R lim np bs P sm how a b r P2 sm2 np2 bs2 : Int} {N N2 : Int → Int} {gn : Nat → Int}
theorem ds_0y (h0 : how = 0) (h : (0 ≤ a ∧ a ≤ 3) ∧ astZ C R N (LZ C R N bs) lim P a ≠ -1 ∧ r = LZ C R N bs (astZ C R N (LZ C R N bs) lim P a) ∧ P2 = astZ C R N (LZ C R N bs) lim P a ∧ sm2 = sm + 1) : (r, np, bs, P2, sm2, N) = dsZ C R lim np bs P sm N how a b := by
  obtain ⟨h1, h2, rfl, rfl, rfl⟩ := h
  unfold dsZ
  rw [if_pos h0, if_pos ⟨h1, h2⟩]
theorem ds_0n (h0 : how = 0) (h : ¬ (0 ≤ a ∧ a ≤ 3) ∨ astZ C R N (LZ C R N bs) lim P a = -1) (hu : P2 = P ∧ sm2 = sm) : (-99999, np, bs, P2, sm2, N) = dsZ C R lim np bs P sm N how a b := by
  obtain ⟨rfl, rfl⟩ := hu
  unfold dsZ
  rw [if_pos h0, if_neg (fun g => h.elim (fun k => k g.1) g.2)]
theorem ds_1y (h0 : how = 1) (h : (1 ≤ a ∧ a ≤ 60) ∧ 0 ≤ r ∧ (r = a ∨ r = LZ C R N bs P) ∧ r ≤ a ∧ r ≤ LZ C R N bs P ∧ P2 = alZ C R N (LZ C R N bs) P r.toNat ∧ sm2 = sm + r) : (r, np, bs, P2, sm2, N) = dsZ C R lim np bs P sm N how a b := by
  obtain ⟨h1, h2, h3, h4, h5, rfl, rfl⟩ := h
  have hr : mnZ a (LZ C R N bs P) = r := by unfold mnZ; split <;> omega
  unfold dsZ
  rw [if_neg (by omega), if_pos h0, if_pos h1, hr]
theorem ds_1n (h0 : how = 1) (h : ¬ (1 ≤ a ∧ a ≤ 60)) (hu : P2 = P ∧ sm2 = sm) : (-99999, np, bs, P2, sm2, N) = dsZ C R lim np bs P sm N how a b := by
  obtain ⟨rfl, rfl⟩ := hu
  unfold dsZ
  rw [if_neg (by omega), if_pos h0, if_neg h]
theorem ds_2y (h0 : how = 2) (h : (0 ≤ a ∧ a < C ∧ 0 ≤ b ∧ b < R) ∧ ¬ (np = 3 ∨ P ≠ bs * 343 ∨ a * 7 + b = bs ∨ N (a * 7 + b) ≠ -1) ∧ r = np ∧ np2 = np + 1) : (r, np2, bs, P, sm, NZ N (a * 7 + b) np) = dsZ C R lim np bs P sm N how a b := by
  obtain ⟨h1, h2, rfl, rfl⟩ := h
  unfold dsZ
  rw [if_neg (by omega), if_neg (by omega), if_pos h0, if_pos ⟨h1, h2⟩]
theorem ds_2n (h0 : how = 2) (h : ¬ (0 ≤ a ∧ a < C ∧ 0 ≤ b ∧ b < R) ∨ (np = 3 ∨ P ≠ bs * 343 ∨ a * 7 + b = bs ∨ N (a * 7 + b) ≠ -1)) (hu : np2 = np) : (-99999, np2, bs, P, sm, N) = dsZ C R lim np bs P sm N how a b := by
  obtain rfl := hu
  unfold dsZ
  rw [if_neg (by omega), if_neg (by omega), if_pos h0, if_neg (fun g => h.elim (fun k => k g.1) g.2)]
theorem ds_3y (h0 : how = 3) (h : r = 0 ∧ (0 ≤ a ∧ a < C ∧ 0 ≤ b ∧ b < R) ∧ N (a * 7 + b) = -1 ∧ bs2 = a * 7 + b ∧ P2 = (a * 7 + b) * 343 ∧ sm2 = 0) : (r, np, bs2, P2, sm2, N) = dsZ C R lim np bs P sm N how a b := by
  obtain ⟨rfl, h1, h2, rfl, rfl, rfl⟩ := h
  unfold dsZ
  rw [if_neg (by omega), if_neg (by omega), if_neg (by omega), if_pos h0, if_pos ⟨h1, h2⟩]
theorem ds_3n (h0 : how = 3) (h : ¬ (0 ≤ a ∧ a < C ∧ 0 ≤ b ∧ b < R) ∨ N (a * 7 + b) ≠ -1) (hu : bs2 = bs ∧ P2 = P ∧ sm2 = sm) : (-99999, np, bs2, P2, sm2, N) = dsZ C R lim np bs P sm N how a b := by
  obtain ⟨rfl, rfl, rfl⟩ := hu
  unfold dsZ
  rw [if_neg (by omega), if_neg (by omega), if_neg (by omega), if_pos h0, if_neg (fun g => h.elim (fun k => k g.1) (fun k => k g.2))]
theorem ds_4y (h0 : how ≠ 0 ∧ how ≠ 1 ∧ how ≠ 2 ∧ how ≠ 3) (h : (0 ≤ a ∧ a < C ∧ 0 ≤ b ∧ b < R) ∧ (bsF (astZ C R N (LZ C R N bs) lim) (a * 7 + b) 16807 0 (bs0 P)).1 ≠ -1 ∧ P2 = (bsF (astZ C R N (LZ C R N bs) lim) (a * 7 + b) 16807 0 (bs0 P)).1 ∧ r = (bsF (astZ C R N (LZ C R N bs) lim) (a * 7 + b) 16807 0 (bs0 P)).2.2.1 (bsF (astZ C R N (LZ C R N bs) lim) (a * 7 + b) 16807 0 (bs0 P)).1 ∧ sm2 = sm + r) : (r, np, bs, P2, sm2, N) = dsZ C R lim np bs P sm N how a b := by
  obtain ⟨h1, h2, rfl, rfl, rfl⟩ := h
  unfold dsZ
  rw [if_neg h0.1, if_neg h0.2.1, if_neg h0.2.2.1, if_neg h0.2.2.2, if_pos ⟨h1, h2⟩]
  rfl
theorem ds_4n (h0 : how ≠ 0 ∧ how ≠ 1 ∧ how ≠ 2 ∧ how ≠ 3) (h : ¬ (0 ≤ a ∧ a < C ∧ 0 ≤ b ∧ b < R) ∨ (bsF (astZ C R N (LZ C R N bs) lim) (a * 7 + b) 16807 0 (bs0 P)).1 = -1) (hu : P2 = P ∧ sm2 = sm) : (-99999, np, bs, P2, sm2, N) = dsZ C R lim np bs P sm N how a b := by
  obtain ⟨rfl, rfl⟩ := hu
  unfold dsZ
  rw [if_neg h0.1, if_neg h0.2.1, if_neg h0.2.2.1, if_neg h0.2.2.2, if_neg (fun g => h.elim (fun k => k g.1) g.2)]
/-- what holds between two calls of the law -/
def JI (C R lim np bs P sm : Int) (N : Int → Int) (B : Int) : Prop := GdZ C R N (bs * 343) ∧ (0 ≤ LZ C R N bs P ∧ LZ C R N bs P ≤ lim) ∧ (2 ≤ lim ∧ lim ≤ 59) ∧ LZ C R N bs P ≤ sm ∧ (sm - LZ C R N bs P) % 2 = 0 ∧ sm ≤ B
theorem tup6 {a1 a2 a3 a4 a5 b1 b2 b3 b4 b5 : Int} {f g : Int → Int} (h : (a1, a2, a3, a4, a5, f) = (b1, b2, b3, b4, b5, g)) : a1 = b1 ∧ a2 = b2 ∧ a3 = b3 ∧ a4 = b4 ∧ a5 = b5 ∧ f = g := by
  simp only [Prod.mk.injEq] at h
  exact h
theorem ds_J {B : Int} (hF : FlOK C R np N gn) (h : JI C R lim np bs P sm N B) (e : (r, np2, bs2, P2, sm2, N2) = dsZ C R lim np bs P sm N how a b) :
    JI C R lim np2 bs2 P2 sm2 N2 (B + 20000) ∧ (r = -99999 → np = np2 ∧ bs = bs2 ∧ P = P2 ∧ sm = sm2 ∧ N = N2) ∧ (r = -99999 ∨ (0 ≤ r ∧ r < 20000)) := by
  obtain ⟨hb, ⟨hP0, hP1⟩, hlm, hs0, hs1, hs2⟩ := id h
  have hno : (r, np2, bs2, P2, sm2, N2) = (-99999, np, bs, P, sm, N) → JI C R lim np2 bs2 P2 sm2 N2 (B + 20000) ∧ (r = -99999 → np = np2 ∧ bs = bs2 ∧ P = P2 ∧ sm = sm2 ∧ N = N2) ∧ (r = -99999 ∨ (0 ≤ r ∧ r < 20000)) := fun k => by
    obtain ⟨rfl, rfl, rfl, rfl, rfl, rfl⟩ := tup6 k
    exact ⟨⟨hb, ⟨hP0, hP1⟩, hlm, hs0, hs1, by omega⟩, fun _ => ⟨rfl, rfl, rfl, rfl, rfl⟩, Or.inl rfl⟩
  have hFl := hF
  obtain ⟨hC1, hC2, hR1, hR2, hp1, hp2, -, -⟩ := id hF
  unfold dsZ at e
  split at e
  · split at e
    · rename_i hc
      obtain ⟨rfl, rfl, rfl, rfl, rfl, rfl⟩ := tup6 e
      obtain ⟨e1, e2, e3, e4⟩ := ast_ne hc.2
      have h1 := LZ_st hF hb hP0 hc.1.1 hc.1.2 e2
      rw [← e1] at h1 e4
      exact ⟨⟨hb, ⟨h1.1, e4⟩, hlm, by omega, by omega, by omega⟩, fun k => by omega, Or.inr (by omega)⟩
    · exact hno e
  · split at e
    · split at e
      · rename_i hc
        obtain ⟨rfl, rfl, rfl, rfl, rfl, rfl⟩ := tup6 e
        have hm : 0 ≤ mnZ a (LZ C R N2 bs2 P) ∧ mnZ a (LZ C R N2 bs2 P) ≤ LZ C R N2 bs2 P := by unfold mnZ; split <;> omega
        have h1 := al_L hF hb hP0 (mnZ a (LZ C R N2 bs2 P)).toNat (by omega)
        exact ⟨⟨hb, ⟨by omega, by omega⟩, hlm, by omega, by omega, by omega⟩, fun k => by omega, Or.inr (by omega)⟩
      · exact hno e
    · split at e
      · split at e
        · rename_i hc
          obtain ⟨rfl, rfl, rfl, rfl, rfl, rfl⟩ := tup6 e
          have hF2 := FlOK_set hF (q := a * 7 + b) (by omega) (by omega) (by omega)
          have hb2 := GdZ_set (k := r) hb (q := a * 7 + b) (by omega)
          have hPb : P2 = bs2 * 343 := by omega
          have hz := LZ_0 hF hb
          have hz2 := LZ_0 hF2 hb2
          rw [hPb] at hs0 hs1 ⊢
          exact ⟨⟨hb2, ⟨by omega, by omega⟩, hlm, by omega, by omega, by omega⟩, fun k => by omega, Or.inr (by omega)⟩
        · exact hno e
      · split at e
        · split at e
          · rename_i hc
            obtain ⟨rfl, rfl, rfl, rfl, rfl, rfl⟩ := tup6 e
            have hb2 := GdZ_mk hC2 hR2 hc.1.1 hc.1.2.1 hc.1.2.2.1 hc.1.2.2.2 hc.2
            have hz2 := LZ_0 hF hb2
            exact ⟨⟨hb2, ⟨by omega, by omega⟩, hlm, by omega, by omega, by omega⟩, fun k => by omega, Or.inr (by omega)⟩
          · exact hno e
        · split at e
          · rename_i hc
            obtain ⟨rfl, rfl, rfl, rfl, rfl, rfl⟩ := tup6 e
            obtain ⟨⟨a1, a2⟩, ⟨a3, a4, a5⟩, a6, a7⟩ := go_all hF hb hP0 hP1 hc.2
            have h1 := go_len hF hb hP0 a7
            rw [Int.toNat_of_nonneg a1] at h1
            exact ⟨⟨hb, ⟨a4, a5⟩, hlm, by omega, by omega, by omega⟩, fun k => by omega, Or.inr (by omega)⟩
          · exact hno e
end DSZ
