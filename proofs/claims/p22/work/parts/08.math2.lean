section ZSW
variable {p : Program} {l : Launch} {e : Env} {R : Room} {s : State} {m : MethodId} {args : Array Value} {below : List Frame} {meth : Method} {c : Code} {H : Heap} {locs : List Loc} {cells slots : Nat} {Q : State → Prop}
variable {cc : ByteArray} {pc : Nat} {ls : Array Slot} {rest : List Value}
theorem zv_tableOut (hexec : p.tables.exec = Jvm.exec) (hb : c.code = cc) {dflt lo hi : Int} {offs : Array Int} {len : Nat} {z : Int} {tgt : Nat} (hdg : decode cc pc = .ok (.tableswitch dflt lo hi offs, len)) (hz : InR z) (h : z < lo ∨ hi < z) (ht : (pc : Int) + dflt = (tgt : Int))
    (k : W p l e R s m args below meth c H locs cells slots Q (F0 m tgt ls rest)) : W p l e R s m args below meth c H locs cells slots Q (F0 m pc ls (.int (iI z) :: rest)) := lv_tableOut hexec hb hdg (by rw [iI_int hz]; exact h) ht k
theorem zv_tableIn (hexec : p.tables.exec = Jvm.exec) (hb : c.code = cc) {dflt lo hi : Int} {offs : Array Int} {len : Nat} {z : Int} {off : Int} {tgt : Nat} (hdg : decode cc pc = .ok (.tableswitch dflt lo hi offs, len)) (hz : InR z) (h1 : ¬ z < lo) (h2 : ¬ hi < z) (ho : offs[(z - lo).toNat]? = some off) (ht : (pc : Int) + off = (tgt : Int))
    (k : W p l e R s m args below meth c H locs cells slots Q (F0 m tgt ls rest)) : W p l e R s m args below meth c H locs cells slots Q (F0 m pc ls (.int (iI z) :: rest)) := lv_tableIn hexec hb hdg (by rw [iI_int hz]; exact h1) (by rw [iI_int hz]; exact h2) (by rw [iI_int hz]; exact ho) ht k
end ZSW
theorem aftZ_0 (C R : Int) (N : Int → Int) (p : Int) : aftZ C R N p 0 = plZ C R N (p / 343 / 7) (p / 343 % 7 - 1) (p % 343) := by unfold aftZ; rw [if_pos rfl]
theorem aftZ_1 (C R : Int) (N : Int → Int) (p : Int) : aftZ C R N p 1 = plZ C R N (p / 343 / 7 + 1) (p / 343 % 7) (wRZ N R (p / 343 / 7) (p / 343 % 7) (p % 343)) := by unfold aftZ; rw [if_neg (by decide), if_pos rfl]
theorem aftZ_2 (C R : Int) (N : Int → Int) (p : Int) : aftZ C R N p 2 = plZ C R N (p / 343 / 7) (p / 343 % 7 + 1) (p % 343) := by unfold aftZ; rw [if_neg (by decide), if_neg (by decide), if_pos rfl]
theorem aftZ_3 (C R : Int) (N : Int → Int) (p : Int) : aftZ C R N p 3 = plZ C R N (p / 343 / 7 - 1) (p / 343 % 7) (wLZ N R (p / 343 / 7 - 1) (p / 343 % 7) (p % 343)) := by unfold aftZ; rw [if_neg (by decide), if_neg (by decide), if_neg (by decide)]
theorem wRZ_b {C R np : Int} {N : Int → Int} {gn : Nat → Int} (hF : FlOK C R np N gn) {c r w : Int} (hr : 0 ≤ r) (h0 : 0 ≤ w) (h : w < 343) : 0 ≤ wRZ N R c r w ∧ wRZ N R c r w < 282475249 := by
  have h1 := wRn_b hF (c := c) h0 h (R - 1 - r).toNat (r + 1)
  have h2 := pw7_le (R - 1 - r).toNat (by obtain ⟨-, -, -, h4, -⟩ := hF; omega)
  unfold wRZ
  omega
theorem wLZ_b {C R np : Int} {N : Int → Int} {gn : Nat → Int} (hF : FlOK C R np N gn) {c r w : Int} (hr : 0 ≤ r) (h0 : 0 ≤ w) (h : w < 343) : 0 ≤ wLZ N R c r w ∧ wLZ N R c r w < 282475249 := by
  have h1 := wLn_b hF (c := c) (R - 1 - r).toNat 0 (r + 1) w h0 h
  rw [Nat.zero_add] at h1
  have h2 := pw7_le (R - 1 - r).toNat (by obtain ⟨-, -, -, h4, -⟩ := hF; omega)
  unfold wLZ
  omega
