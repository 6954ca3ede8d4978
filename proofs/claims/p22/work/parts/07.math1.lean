section ZJ
variable {p : Program} {l : Launch} {e : Env} {R : Room} {s : State} {m : MethodId} {args : Array Value} {below : List Frame} {meth : Method} {c : Code} {H : Heap} {locs : List Loc} {cells slots : Nat} {Q : State → Prop}
variable {pc : Nat} {ls : Array Slot} {rest : List Value}
theorem zj_max {cc : ByteArray} (hexec : p.tables.exec = Jvm.exec) (hb : c.code = cc) (hml : c.maxLocals = ls.size) {own : String} {index : Nat} (hown : s.vm.findClass own = some m.cls) (hlink : (Cond.methodLink own index Lib.Math.max.name).before args s = true) (hstat : (Cond.static Lib.Math.max.name).before args s = true) (hini : (Cond.initialized "java/lang/Math").before args s = true) (hcode : (Cond.code Lib.Math.max.name Lib.Math.max.code 2 (some .int)).before args s = true)
    (hframes : 1 ≤ R.frames) (hlocals : (rest.map fun v => v.category).sum + 13 ≤ R.locals) (hc : cells ≤ R.cells) (hs : slots ≤ R.slots) {x y : Int} (h1 : InR x) (h2 : InR y) (hdg : decode cc pc = .ok (.invokestatic index, 3))
    (kk : W p l e R s m args below meth c H locs cells slots Q (F0 m (pc + 3) ls (.int (iI (if x < y then y else x)) :: rest))) : W p l e R s m args below meth c H locs cells slots Q (F0 m pc ls (.int (iI y) :: .int (iI x) :: rest)) := by
  refine va_mmax hexec hb hml hown hlink hstat hini hcode hframes hlocals hc hs hdg ?_
  have e : (if iI x < iI y then iI y else iI x) = iI (if x < y then y else x) := by
    by_cases h : x < y
    · rw [if_pos h, if_pos ((iI_lt h1 h2).mpr h)]
    · rw [if_neg h, if_neg (fun z => h ((iI_lt h1 h2).mp z))]
  rw [e]
  exact kk
theorem zj_min {cc : ByteArray} (hexec : p.tables.exec = Jvm.exec) (hb : c.code = cc) (hml : c.maxLocals = ls.size) {own : String} {index : Nat} (hown : s.vm.findClass own = some m.cls) (hlink : (Cond.methodLink own index Lib.Math.min.name).before args s = true) (hstat : (Cond.static Lib.Math.min.name).before args s = true) (hini : (Cond.initialized "java/lang/Math").before args s = true) (hcode : (Cond.code Lib.Math.min.name Lib.Math.min.code 2 (some .int)).before args s = true)
    (hframes : 1 ≤ R.frames) (hlocals : (rest.map fun v => v.category).sum + 13 ≤ R.locals) (hc : cells ≤ R.cells) (hs : slots ≤ R.slots) {x y : Int} (h1 : InR x) (h2 : InR y) (hdg : decode cc pc = .ok (.invokestatic index, 3))
    (kk : W p l e R s m args below meth c H locs cells slots Q (F0 m (pc + 3) ls (.int (iI (if y < x then y else x)) :: rest))) : W p l e R s m args below meth c H locs cells slots Q (F0 m pc ls (.int (iI y) :: .int (iI x) :: rest)) := by
  refine va_mmin hexec hb hml hown hlink hstat hini hcode hframes hlocals hc hs hdg ?_
  have e : (if iI y < iI x then iI y else iI x) = iI (if y < x then y else x) := by
    by_cases h : y < x
    · rw [if_pos h, if_pos ((iI_lt h2 h1).mpr h)]
    · rw [if_neg h, if_neg (fun z => h ((iI_lt h2 h1).mp z))]
  rw [e]
  exact kk
theorem zj_abs {cc : ByteArray} (hexec : p.tables.exec = Jvm.exec) (hb : c.code = cc) (hml : c.maxLocals = ls.size) {own : String} {index : Nat} (hown : s.vm.findClass own = some m.cls) (hlink : (Cond.methodLink own index Lib.Math.abs.name).before args s = true) (hstat : (Cond.static Lib.Math.abs.name).before args s = true) (hini : (Cond.initialized "java/lang/Math").before args s = true) (hcode : (Cond.code Lib.Math.abs.name Lib.Math.abs.code 1 (some .int)).before args s = true)
    (hframes : 1 ≤ R.frames) (hlocals : (rest.map fun v => v.category).sum + 13 ≤ R.locals) (hc : cells ≤ R.cells) (hs : slots ≤ R.slots) {x : Int} (h1 : InR x) (hdg : decode cc pc = .ok (.invokestatic index, 3))
    (kk : W p l e R s m args below meth c H locs cells slots Q (F0 m (pc + 3) ls (.int (iI (if 0 ≤ x then x else 0 - x)) :: rest))) : W p l e R s m args below meth c H locs cells slots Q (F0 m pc ls (.int (iI x) :: rest)) := by
  refine va_mabs hexec hb hml hown hlink hstat hini hcode hframes hlocals hc hs hdg ?_
  have e : (if 0 ≤ iI x then iI x else 0 - iI x) = iI (if 0 ≤ x then x else 0 - x) := by
    by_cases h : 0 ≤ x
    · rw [if_pos h, if_pos (by rw [← iI_0]; exact (iI_le ⟨by omega, by omega⟩ h1).mpr h)]
    · rw [if_neg h, if_neg (fun z => h ((iI_le ⟨by omega, by omega⟩ h1).mp (by rw [iI_0]; exact z))), ← iI_0, iI_sub]
  rw [e]
  exact kk
end ZJ
/-! words as integers: a letter is put behind a word -/
def wjZ (w k : Int) : Int := if w % 7 - 1 = oppZ k then w / 7 else w * 7 + k + 1
theorem wjZ_b {w k B : Int} (h0 : 0 ≤ w) (h : w < B) (hk : 0 ≤ k) (hk5 : k ≤ 5) : 0 ≤ wjZ w k ∧ wjZ w k < 7 * B := by
  unfold wjZ
  split <;> omega
theorem oppZ_b {k : Int} (hk : 0 ≤ k) (hk5 : k ≤ 5) : 0 ≤ oppZ k ∧ oppZ k ≤ 5 := by
  unfold oppZ
  split <;> omega
theorem oppZ_opp {k : Int} (hk : 0 ≤ k) (hk5 : k ≤ 5) : oppZ (oppZ k) = k := by
  unfold oppZ
  split <;> split <;> omega
/-- the floor: columns, rows, the pillars' numbers by their squares (7 * column + row), -1 for none -/
def FlOK (C R np : Int) (N : Int → Int) (gn : Nat → Int) : Prop := 3 ≤ C ∧ C ≤ 7 ∧ 3 ≤ R ∧ R ≤ 7 ∧ 0 ≤ np ∧ np ≤ 3 ∧ (∀ k : Nat, k < 49 → gn k = N (k : Int)) ∧ ∀ z : Int, N z = -1 ∨ (0 ≤ N z ∧ N z < np ∧ 0 ≤ z ∧ z < 49)
theorem FlOK.N2 {C R np : Int} {N : Int → Int} {gn : Nat → Int} (h : FlOK C R np N gn) (z : Int) : -1 ≤ N z ∧ N z ≤ 2 := by
  obtain ⟨-, -, -, -, -, h6, -, h8⟩ := h
  rcases h8 z with h | h <;> omega
theorem FlOK.Nout {C R np : Int} {N : Int → Int} {gn : Nat → Int} (h : FlOK C R np N gn) (z : Int) (hz : z < 0 ∨ 49 ≤ z) : N z = -1 := by
  obtain ⟨-, -, -, -, -, -, -, h8⟩ := h
  rcases h8 z with h | h <;> omega
theorem FlOK.gn {C R np : Int} {N : Int → Int} {gn : Nat → Int} (h : FlOK C R np N gn) {z : Int} (h0 : 0 ≤ z) (h1 : z < 49) : gn z.toNat = N z := by
  obtain ⟨-, -, -, -, -, -, h7, -⟩ := h
  rw [h7 z.toNat (by omega), Int.toNat_of_nonneg h0]
def plZ (C R : Int) (N : Int → Int) (a b w : Int) : Int := if w < 343 ∧ 0 ≤ a ∧ a < C ∧ 0 ≤ b ∧ b < R ∧ N (a * 7 + b) = -1 then (a * 7 + b) * 343 + w else -1
def stR (N : Int → Int) (c r w : Int) : Int := if N (c * 7 + r) = -1 then w else wjZ w (2 * N (c * 7 + r))
def stL (N : Int → Int) (c r w : Int) : Int := if N (c * 7 + r) = -1 then w else wjZ w (oppZ (2 * N (c * 7 + r)))
def wRn (N : Int → Int) (c : Int) : Nat → Int → Int → Int
  | 0, _, w => w
  | n + 1, b, w => stR N c (b + n) (wRn N c n b w)
def wLn (N : Int → Int) (c : Int) : Nat → Int → Int → Int
  | 0, _, w => w
  | n + 1, b, w => wLn N c n b (stL N c (b + n) w)
def wRZ (N : Int → Int) (R c r w : Int) : Int := wRn N c (R - 1 - r).toNat (r + 1) w
def wLZ (N : Int → Int) (R c r w : Int) : Int := wLn N c (R - 1 - r).toNat (r + 1) w
def pw7 : Nat → Int
  | 0 => 343
  | n + 1 => 7 * pw7 n
theorem pw7_le : ∀ n : Nat, n ≤ 7 → pw7 n ≤ 282475249 := by
  intro n hn
  have h : n = 0 ∨ n = 1 ∨ n = 2 ∨ n = 3 ∨ n = 4 ∨ n = 5 ∨ n = 6 ∨ n = 7 := by omega
  rcases h with rfl | rfl | rfl | rfl | rfl | rfl | rfl | rfl <;> decide
theorem stR_b {C R np : Int} {N : Int → Int} {gn : Nat → Int} (hF : FlOK C R np N gn) {c r w B : Int} (h0 : 0 ≤ w) (h : w < B) : 0 ≤ stR N c r w ∧ stR N c r w < 7 * B := by
  unfold stR
  have h2 := hF.N2 (c * 7 + r)
  split
  · omega
  · exact wjZ_b h0 h (by omega) (by omega)
theorem stL_b {C R np : Int} {N : Int → Int} {gn : Nat → Int} (hF : FlOK C R np N gn) {c r w B : Int} (h0 : 0 ≤ w) (h : w < B) : 0 ≤ stL N c r w ∧ stL N c r w < 7 * B := by
  unfold stL
  have h2 := hF.N2 (c * 7 + r)
  split
  · omega
  · have := oppZ_b (k := 2 * N (c * 7 + r)) (by omega) (by omega)
    exact wjZ_b h0 h this.1 this.2
theorem wRn_b {C R np : Int} {N : Int → Int} {gn : Nat → Int} (hF : FlOK C R np N gn) {c w : Int} (h0 : 0 ≤ w) (h : w < 343) : ∀ (n : Nat) (b : Int), 0 ≤ wRn N c n b w ∧ wRn N c n b w < pw7 n := by
  intro n b
  induction n with
  | zero => exact ⟨h0, h⟩
  | succ n ih => exact stR_b hF ih.1 ih.2
theorem wLn_b {C R np : Int} {N : Int → Int} {gn : Nat → Int} (hF : FlOK C R np N gn) {c : Int} : ∀ (n j : Nat) (b w : Int), 0 ≤ w → w < pw7 j → 0 ≤ wLn N c n b w ∧ wLn N c n b w < pw7 (j + n) := by
  intro n
  induction n with
  | zero => intro j b w h0 h; exact ⟨h0, h⟩
  | succ n ih =>
    intro j b w h0 h
    have h2 := stL_b hF (c := c) (r := b + n) h0 h
    have h3 := ih (j + 1) b _ h2.1 h2.2
    rw [show j + (n + 1) = j + 1 + n by omega]
    exact h3
/-- the place to which a step leads in a walk, -1 for none: a place is 343 * square + word -/
def aftZ (C R : Int) (N : Int → Int) (p d : Int) : Int :=
  if d = 0 then plZ C R N (p / 343 / 7) (p / 343 % 7 - 1) (p % 343)
  else if d = 1 then plZ C R N (p / 343 / 7 + 1) (p / 343 % 7) (wRZ N R (p / 343 / 7) (p / 343 % 7) (p % 343))
  else if d = 2 then plZ C R N (p / 343 / 7) (p / 343 % 7 + 1) (p % 343)
  else plZ C R N (p / 343 / 7 - 1) (p / 343 % 7) (wLZ N R (p / 343 / 7 - 1) (p / 343 % 7) (p % 343))
def lenZ (w : Int) : Int := if w = 0 then 0 else if w < 7 then 1 else if w < 49 then 2 else 3
def absZ (z : Int) : Int := if 0 ≤ z then z else 0 - z
